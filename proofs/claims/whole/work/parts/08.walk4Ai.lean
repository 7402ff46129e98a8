set_option maxHeartbeats 4000000 in
set_option maxRecDepth 100000 in
theorem c_Ai_refuseAs (l : Launch) (G : Gl) (aA : Nat) (aA_images : Nat) (aA_kept : Nat) (aA_refused : Nat) (aA_heardBy : Nat) (A_now : Nat) (A_draft : Nat) (A_sound : Nat) (A_reader : Nat) (A_refused : Nat → Int32) (p1 : Int32) (p2 : Int32) {res : Int32 × (Nat → Int32)} (h : f_Ai_refuseAs A_refused p1 p2 = some res) : Ct l y_Ai_refuseAs b_Ai_refuseAs 4 (some .int) 0 0 G [.ref aA, .int p1, .int p2] [(aA, .inr (3, [.ref A_now, .ref A_draft, .ref aA_images, .ref aA_kept, .ref A_sound, .ref A_reader, .ref aA_refused, .ref aA_heardBy])), (aA_refused, .inl (gI G, 3, .inl A_refused))] (some (.int res.1)) [(aA, .inr (3, [.ref A_now, .ref A_draft, .ref aA_images, .ref aA_kept, .ref A_sound, .ref A_reader, .ref aA_refused, .ref aA_heardBy])), (aA_refused, .inl (gI G, 3, .inl (res.2)))] := by
  refine Ct.mk (by decide) (Nat.le_of_ble_eq_true rfl) ?_
  intro p e s m args below meth c ls A Q C hE hW hl hQ
  have C : Cx p s args m c meth "LentAir" y_Ai_refuseAs b_Ai_refuseAs 4 (some .int) := C
  have hl : lv_has ls 4 [(0, .ref aA), (1, .int p1), (2, .int p2)] := hl
  unfold f_Ai_refuseAs at h
  refine lv_bipush (v := (-2)) C.1.1 C.1.2.1 d_Ai_refuseAs_0 (by decide) ?_
  refine lv_iload_n C.1.1 C.1.2.1 d_Ai_refuseAs_2 rfl (lv_at hl 1 rfl) ?_
  refine lv_isub C.1.1 C.1.2.1 d_Ai_refuseAs_3 ?_
  refine lv_topi (fun x1 ex1 => ?_)
  replace h := lt_at ex1 h
  refine lv_istore_n (lv' := [(3, .int x1), (0, .ref aA), (1, .int p1), (2, .int p2)]) C.1.1 C.1.2.1 d_Ai_refuseAs_4 rfl hl (by decide) rfl (fun ls hl => ?_)
  refine lv_iload_n C.1.1 C.1.2.1 d_Ai_refuseAs_5 rfl (lv_at hl 0 rfl) ?_
  refine lv_if_lt (tgt := 24) C.1.1 C.1.2.1 d_Ai_refuseAs_6 (by decide) (fun cc => ?_) (fun cc => ?_)
  · replace h := it_t cc h
    refine lv_iload_n C.1.1 C.1.2.1 d_Ai_refuseAs_24 rfl (lv_at hl 3 rfl) ?_
    obtain rfl := Option.some.inj h
    exact x_iret C hW rfl rfl hQ d_Ai_refuseAs_25
  · replace h := it_f cc h
    refine lv_iload_n C.1.1 C.1.2.1 d_Ai_refuseAs_9 rfl (lv_at hl 0 rfl) ?_
    refine lv_iconst (v := 3) C.1.1 C.1.2.1 d_Ai_refuseAs_10 (by decide) ?_
    refine lv_icmp_ge (tgt := 24) C.1.1 C.1.2.1 d_Ai_refuseAs_11 (by decide) (fun cc => ?_) (fun cc => ?_)
    · replace h := it_t cc h
      refine lv_iload_n C.1.1 C.1.2.1 d_Ai_refuseAs_24 rfl (lv_at hl 3 rfl) ?_
      obtain rfl := Option.some.inj h
      exact x_iret C hW rfl rfl hQ d_Ai_refuseAs_25
    · replace h := it_f cc h
      refine lv_aload_n C.1.1 C.1.2.1 d_Ai_refuseAs_14 rfl (lv_at hl 1 rfl) ?_
      refine x_get C hE hW fl_Ai_43 0 rfl rfl d_Ai_refuseAs_15 ?_
      refine lv_iload_n C.1.1 C.1.2.1 d_Ai_refuseAs_18 rfl (lv_at hl 0 rfl) ?_
      refine lv_dup2_11 C.1.1 C.1.2.1 d_Ai_refuseAs_19 rfl rfl ?_
      obtain ⟨hg, h⟩ := gd_at h
      refine x_iald C hE hW 1 rfl (inB_in hg) d_Ai_refuseAs_20 ?_
      refine lv_iconst (v := 1) C.1.1 C.1.2.1 d_Ai_refuseAs_21 (by decide) ?_
      refine lv_iadd C.1.1 C.1.2.1 d_Ai_refuseAs_22 ?_
      obtain ⟨hg, h⟩ := gd_at h
      obtain ⟨x2, ex2⟩ : ∃ y : Nat → Int32, y = upd A_refused x1.toNatClampNeg ((A_refused x1.toNatClampNeg) + 1) := ⟨_, rfl⟩
      replace h := lt_at ex2 h
      refine x_iast (ws' := [(aA, .inr (3, [.ref A_now, .ref A_draft, .ref aA_images, .ref aA_kept, .ref A_sound, .ref A_reader, .ref aA_refused, .ref aA_heardBy])), (aA_refused, .inl (gI G, 3, .inl x2))]) C hE hW 1 rfl (inB_in hg) (by subst ex2; rfl) d_Ai_refuseAs_23 (fun H locs hW => ?_)
      refine lv_iload_n C.1.1 C.1.2.1 d_Ai_refuseAs_24 rfl (lv_at hl 3 rfl) ?_
      obtain rfl := Option.some.inj h
      exact x_iret C hW rfl rfl hQ d_Ai_refuseAs_25
set_option maxHeartbeats 4000000 in
set_option maxRecDepth 100000 in
theorem c_Ai_refuse (l : Launch) (G : Gl) (aA : Nat) (aA_images : Nat) (aA_kept : Nat) (aA_refused : Nat) (aA_heardBy : Nat) (A_now : Nat) (A_draft : Nat) (A_sound : Nat) (A_reader : Nat) (A_refused : Nat → Int32) (p1 : Int32) {res : Int32 × (Nat → Int32)} (h : f_Ai_refuse A_refused p1 = some res) : Ct l y_Ai_refuse b_Ai_refuse 2 (some .int) 1 23 G [.ref aA, .int p1] [(aA, .inr (3, [.ref A_now, .ref A_draft, .ref aA_images, .ref aA_kept, .ref A_sound, .ref A_reader, .ref aA_refused, .ref aA_heardBy])), (aA_refused, .inl (gI G, 3, .inl A_refused))] (some (.int res.1)) [(aA, .inr (3, [.ref A_now, .ref A_draft, .ref aA_images, .ref aA_kept, .ref A_sound, .ref A_reader, .ref aA_refused, .ref aA_heardBy])), (aA_refused, .inl (gI G, 3, .inl (res.2)))] := by
  refine Ct.mk (by decide) (Nat.le_of_ble_eq_true rfl) ?_
  intro p e s m args below meth c ls A Q C hE hW hl hQ
  have C : Cx p s args m c meth "LentAir" y_Ai_refuse b_Ai_refuse 2 (some .int) := C
  have hl : lv_has ls 2 [(0, .ref aA), (1, .int p1)] := hl
  unfold f_Ai_refuse at h
  refine lv_aload_n C.1.1 C.1.2.1 d_Ai_refuse_0 rfl (lv_at hl 0 rfl) ?_
  refine lv_iload_n C.1.1 C.1.2.1 d_Ai_refuse_1 rfl (lv_at hl 1 rfl) ?_
  refine lv_iload_n C.1.1 C.1.2.1 d_Ai_refuse_2 rfl (lv_at hl 1 rfl) ?_
  obtain ⟨⟨x1, x2⟩, hc3, h⟩ := bd_at h
  refine x_callV (ws' := [(aA, .inr (3, [.ref A_now, .ref A_draft, .ref aA_images, .ref aA_kept, .ref A_sound, .ref A_reader, .ref aA_refused, .ref aA_heardBy])), (aA_refused, .inl (gI G, 3, .inl x2))]) (stk := [.int x1]) (rest := []) (As := [.int p1, .int p1]) (q0 := 0) C hE hW (c_Ai_refuseAs l G aA aA_images aA_kept aA_refused aA_heardBy A_now A_draft A_sound A_reader A_refused p1 p1 hc3) cv_Ai_refuseAs tw312 hl rfl rfl (Nat.le_of_ble_eq_true rfl) rfl rfl rfl ⟨Nat.le_of_ble_eq_true rfl, Nat.le_of_ble_eq_true rfl⟩ ⟨Nat.zero_le _, Nat.zero_le _⟩ [0, 1] [] [0, 1] rfl rfl rfl (by decide) rfl rfl rfl rfl d_Ai_refuse_3 (fun H locs hW => ?_)
  obtain rfl := Option.some.inj h
  exact x_iret C hW rfl rfl hQ d_Ai_refuse_6
set_option maxHeartbeats 4000000 in
set_option maxRecDepth 100000 in
theorem c_Ai_valley (l : Launch) (G : Gl) (aA : Nat) (aA_images : Nat) (aA_kept : Nat) (aA_refused : Nat) (aA_heardBy : Nat) (aN : Nat) (aN_grounds : Nat) (aN_airs : Nat) (aN_tolds : Nat) (aN_fees : Nat) (aN_lets : Nat) (aN_kinds : Nat) (aN_cells : Nat) (aN_selves : Nat) (aN_cries : Nat) (aN_parts : Nat) (aN_past : Nat) (A_draft : Nat) (A_sound : Nat) (A_reader : Nat) (N_width : Int32) (N_height : Int32) (N_everywhere : Int64) (N_firstColumn : Int64) (N_lastColumn : Int64) (N_makers : Int32) (N_leaves : Int32) (N_pasts : Int32) (A_refused : Nat → Int32) (N_grounds : Nat → Int64) (N_airs : Nat → Int64) (N_tolds : Nat → Int64) (N_fees : Nat → Int32) (N_lets : Nat → Int32) (p1 : Int32) (p2 : Int32) {res : Int32 × (Nat → Int32) × Int32 × Int32 × Int64 × Int64 × Int64 × (Nat → Int64) × (Nat → Int64) × (Nat → Int64) × (Nat → Int32) × (Nat → Int32) × Int32 × Int32 × Int32} (h : f_Ai_valley N_width N_height N_everywhere N_firstColumn N_lastColumn N_makers N_leaves N_pasts A_refused N_grounds N_airs N_tolds N_fees N_lets p1 p2 = some res) : Ct l y_Ai_valley b_Ai_valley 3 (some .int) 2 46 G [.ref aA, .int p1, .int p2] [(aA, .inr (3, [.ref aN, .ref A_draft, .ref aA_images, .ref aA_kept, .ref A_sound, .ref A_reader, .ref aA_refused, .ref aA_heardBy])), (aA_refused, .inl (gI G, 3, .inl A_refused)), (aN, .inr (0, [.int N_width, .int N_height, .long N_everywhere, .long N_firstColumn, .long N_lastColumn, .ref aN_grounds, .ref aN_airs, .ref aN_tolds, .ref aN_fees, .ref aN_lets, .int N_makers, .ref aN_kinds, .ref aN_cells, .ref aN_selves, .ref aN_cries, .int N_leaves, .ref aN_parts, .int N_pasts, .ref aN_past])), (aN_grounds, .inl (gJ G, 3, .inr (.inl N_grounds))), (aN_airs, .inl (gJ G, 6, .inr (.inl N_airs))), (aN_tolds, .inl (gJ G, 3, .inr (.inl N_tolds))), (aN_fees, .inl (gI G, 6, .inl N_fees)), (aN_lets, .inl (gI G, 6, .inl N_lets))] (some (.int res.1)) [(aA, .inr (3, [.ref aN, .ref A_draft, .ref aA_images, .ref aA_kept, .ref A_sound, .ref A_reader, .ref aA_refused, .ref aA_heardBy])), (aA_refused, .inl (gI G, 3, .inl (res.2.1))), (aN, .inr (0, [.int (res.2.2.1), .int (res.2.2.2.1), .long (res.2.2.2.2.1), .long (res.2.2.2.2.2.1), .long (res.2.2.2.2.2.2.1), .ref aN_grounds, .ref aN_airs, .ref aN_tolds, .ref aN_fees, .ref aN_lets, .int (res.2.2.2.2.2.2.2.2.2.2.2.2.1), .ref aN_kinds, .ref aN_cells, .ref aN_selves, .ref aN_cries, .int (res.2.2.2.2.2.2.2.2.2.2.2.2.2.1), .ref aN_parts, .int (res.2.2.2.2.2.2.2.2.2.2.2.2.2.2), .ref aN_past])), (aN_grounds, .inl (gJ G, 3, .inr (.inl (res.2.2.2.2.2.2.2.1)))), (aN_airs, .inl (gJ G, 6, .inr (.inl (res.2.2.2.2.2.2.2.2.1)))), (aN_tolds, .inl (gJ G, 3, .inr (.inl (res.2.2.2.2.2.2.2.2.2.1)))), (aN_fees, .inl (gI G, 6, .inl (res.2.2.2.2.2.2.2.2.2.2.1))), (aN_lets, .inl (gI G, 6, .inl (res.2.2.2.2.2.2.2.2.2.2.2.1)))] := by
  refine Ct.mk (by decide) (Nat.le_of_ble_eq_true rfl) ?_
  intro p e s m args below meth c ls A Q C hE hW hl hQ
  have C : Cx p s args m c meth "LentAir" y_Ai_valley b_Ai_valley 3 (some .int) := C
  have hl : lv_has ls 3 [(0, .ref aA), (1, .int p1), (2, .int p2)] := hl
  unfold f_Ai_valley at h
  refine lv_iload_n C.1.1 C.1.2.1 d_Ai_valley_0 rfl (lv_at hl 1 rfl) ?_
  refine lv_iconst (v := 1) C.1.1 C.1.2.1 d_Ai_valley_1 (by decide) ?_
  refine jn_at (P := fun (_ : Unit) => ∀ (H : Heap) (locs : List Loc) (ls : Array Slot), Wd G A s.heap H locs [(aA, .inr (3, [.ref aN, .ref A_draft, .ref aA_images, .ref aA_kept, .ref A_sound, .ref A_reader, .ref aA_refused, .ref aA_heardBy])), (aA_refused, .inl (gI G, 3, .inl A_refused)), (aN, .inr (0, [.int N_width, .int N_height, .long N_everywhere, .long N_firstColumn, .long N_lastColumn, .ref aN_grounds, .ref aN_airs, .ref aN_tolds, .ref aN_fees, .ref aN_lets, .int N_makers, .ref aN_kinds, .ref aN_cells, .ref aN_selves, .ref aN_cries, .int N_leaves, .ref aN_parts, .int N_pasts, .ref aN_past])), (aN_grounds, .inl (gJ G, 3, .inr (.inl N_grounds))), (aN_airs, .inl (gJ G, 6, .inr (.inl N_airs))), (aN_tolds, .inl (gJ G, 3, .inr (.inl N_tolds))), (aN_fees, .inl (gI G, 6, .inl N_fees)), (aN_lets, .inl (gI G, 6, .inl N_lets))] → lv_has ls 3 [(0, .ref aA)] → W p l e (RM 2 46) s m args below meth c H locs 0 0 Q (F0 m 22 ls [])) h ?_ ?_
  · skip
    intro _ h
    intro H locs ls hW hl
    refine lv_aload_n C.1.1 C.1.2.1 d_Ai_valley_22 rfl (lv_at hl 0 rfl) ?_
    refine lv_bipush (v := (-2)) C.1.1 C.1.2.1 d_Ai_valley_23 (by decide) ?_
    obtain ⟨⟨x1, x2⟩, hc3, h⟩ := bd_at h
    refine x_callV (ws' := [(aA, .inr (3, [.ref aN, .ref A_draft, .ref aA_images, .ref aA_kept, .ref A_sound, .ref A_reader, .ref aA_refused, .ref aA_heardBy])), (aA_refused, .inl (gI G, 3, .inl x2)), (aN, .inr (0, [.int N_width, .int N_height, .long N_everywhere, .long N_firstColumn, .long N_lastColumn, .ref aN_grounds, .ref aN_airs, .ref aN_tolds, .ref aN_fees, .ref aN_lets, .int N_makers, .ref aN_kinds, .ref aN_cells, .ref aN_selves, .ref aN_cries, .int N_leaves, .ref aN_parts, .int N_pasts, .ref aN_past])), (aN_grounds, .inl (gJ G, 3, .inr (.inl N_grounds))), (aN_airs, .inl (gJ G, 6, .inr (.inl N_airs))), (aN_tolds, .inl (gJ G, 3, .inr (.inl N_tolds))), (aN_fees, .inl (gI G, 6, .inl N_fees)), (aN_lets, .inl (gI G, 6, .inl N_lets))]) (stk := [.int x1]) (rest := []) (As := [.int (-2)]) (q0 := 0) C hE hW (c_Ai_refuse l G aA aA_images aA_kept aA_refused aA_heardBy aN A_draft A_sound A_reader A_refused (-2) hc3) cv_Ai_refuse tw308 hl rfl rfl (Nat.le_of_ble_eq_true rfl) rfl rfl rfl ⟨Nat.le_of_ble_eq_true rfl, Nat.le_of_ble_eq_true rfl⟩ ⟨Nat.zero_le _, Nat.zero_le _⟩ [0, 1] [2, 3, 4, 5, 6, 7] [6, 7, 0, 1, 2, 3, 4, 5] rfl rfl rfl (by decide) rfl rfl rfl rfl d_Ai_valley_25 (fun H locs hW => ?_)
    obtain rfl := Option.some.inj h
    exact x_iret C hW rfl rfl hQ d_Ai_valley_28
  · intro J22 hJ22 h
    refine lv_icmp_lt (tgt := 22) C.1.1 C.1.2.1 d_Ai_valley_2 (by decide) (fun cc => ?_) (fun cc => ?_)
    · replace h := it_t cc h
      exact hJ22 _ h _ _ _ hW (lv_sub hl [0] rfl)
    · replace h := it_f cc h
      refine lv_iload_n C.1.1 C.1.2.1 d_Ai_valley_5 rfl (lv_at hl 1 rfl) ?_
      refine lv_bipush (v := 6) C.1.1 C.1.2.1 d_Ai_valley_6 (by decide) ?_
      refine lv_icmp_gt (tgt := 22) C.1.1 C.1.2.1 d_Ai_valley_8 (by decide) (fun cc => ?_) (fun cc => ?_)
      · replace h := it_t cc h
        exact hJ22 _ h _ _ _ hW (lv_sub hl [0] rfl)
      · replace h := it_f cc h
        refine lv_iload_n C.1.1 C.1.2.1 d_Ai_valley_11 rfl (lv_at hl 2 rfl) ?_
        refine lv_iconst (v := 1) C.1.1 C.1.2.1 d_Ai_valley_12 (by decide) ?_
        refine lv_icmp_lt (tgt := 22) C.1.1 C.1.2.1 d_Ai_valley_13 (by decide) (fun cc => ?_) (fun cc => ?_)
        · replace h := it_t cc h
          exact hJ22 _ h _ _ _ hW (lv_sub hl [0] rfl)
        · replace h := it_f cc h
          refine lv_iload_n C.1.1 C.1.2.1 d_Ai_valley_16 rfl (lv_at hl 2 rfl) ?_
          refine lv_bipush (v := 6) C.1.1 C.1.2.1 d_Ai_valley_17 (by decide) ?_
          refine lv_icmp_le (tgt := 29) C.1.1 C.1.2.1 d_Ai_valley_19 (by decide) (fun cc => ?_) (fun cc => ?_)
          · replace h := it_t cc h
            refine lv_aload_n C.1.1 C.1.2.1 d_Ai_valley_29 rfl (lv_at hl 0 rfl) ?_
            refine x_get C hE hW fl_Ai_12 0 rfl rfl d_Ai_valley_30 ?_
            refine lv_iload_n C.1.1 C.1.2.1 d_Ai_valley_33 rfl (lv_at hl 1 rfl) ?_
            refine lv_iload_n C.1.1 C.1.2.1 d_Ai_valley_34 rfl (lv_at hl 2 rfl) ?_
            obtain ⟨⟨x4, x5, x6, x7, x8, x9, x10, x11, x12, x13, x14, x15, x16⟩, hc17, h⟩ := bd_at h
            refine x_callV (ws' := [(aA, .inr (3, [.ref aN, .ref A_draft, .ref aA_images, .ref aA_kept, .ref A_sound, .ref A_reader, .ref aA_refused, .ref aA_heardBy])), (aA_refused, .inl (gI G, 3, .inl A_refused)), (aN, .inr (0, [.int x4, .int x5, .long x6, .long x7, .long x8, .ref aN_grounds, .ref aN_airs, .ref aN_tolds, .ref aN_fees, .ref aN_lets, .int x14, .ref aN_kinds, .ref aN_cells, .ref aN_selves, .ref aN_cries, .int x15, .ref aN_parts, .int x16, .ref aN_past])), (aN_grounds, .inl (gJ G, 3, .inr (.inl x9))), (aN_airs, .inl (gJ G, 6, .inr (.inl x10))), (aN_tolds, .inl (gJ G, 3, .inr (.inl x11))), (aN_fees, .inl (gI G, 6, .inl x12)), (aN_lets, .inl (gI G, 6, .inl x13))]) (stk := []) (rest := []) (As := [.int p1, .int p2]) (q0 := 2) C hE hW (c_Ld_lay l G aN aN_grounds aN_airs aN_tolds aN_fees aN_lets aN_kinds aN_cells aN_selves aN_cries aN_parts aN_past N_width N_height N_everywhere N_firstColumn N_lastColumn N_makers N_leaves N_pasts N_grounds N_airs N_tolds N_fees N_lets p1 p2 hc17) cv_Ld_lay tw316 hl rfl rfl (Nat.le_of_ble_eq_true rfl) rfl rfl rfl ⟨Nat.le_of_ble_eq_true rfl, Nat.le_of_ble_eq_true rfl⟩ ⟨Nat.zero_le _, Nat.zero_le _⟩ [2, 3, 4, 5, 6, 7] [0, 1] [0, 1, 2, 3, 4, 5, 6, 7] rfl rfl rfl (by decide) rfl rfl rfl rfl d_Ai_valley_35 (fun H locs hW => ?_)
            refine lv_iconst (v := 1) C.1.1 C.1.2.1 d_Ai_valley_38 (by decide) ?_
            obtain rfl := Option.some.inj h
            exact x_iret C hW rfl rfl hQ d_Ai_valley_39
          · replace h := it_f cc h
            exact hJ22 _ h _ _ _ hW (lv_sub hl [0] rfl)
set_option maxHeartbeats 4000000 in
set_option maxRecDepth 100000 in
theorem c_Ai_isCell (l : Launch) (G : Gl) (aA : Nat) (aA_images : Nat) (aA_kept : Nat) (aA_refused : Nat) (aA_heardBy : Nat) (aN : Nat) (aN_grounds : Nat) (aN_airs : Nat) (aN_tolds : Nat) (aN_fees : Nat) (aN_lets : Nat) (aN_kinds : Nat) (aN_cells : Nat) (aN_selves : Nat) (aN_cries : Nat) (aN_parts : Nat) (aN_past : Nat) (A_draft : Nat) (A_sound : Nat) (A_reader : Nat) (N_width : Int32) (N_height : Int32) (N_everywhere : Int64) (N_firstColumn : Int64) (N_lastColumn : Int64) (N_makers : Int32) (N_leaves : Int32) (N_pasts : Int32) (p1 : Int32) {res : Int32} (h : f_Ai_isCell N_width N_height p1 = some res) : Ct l y_Ai_isCell b_Ai_isCell 2 (some .boolean) 0 0 G [.ref aA, .int p1] [(aA, .inr (3, [.ref aN, .ref A_draft, .ref aA_images, .ref aA_kept, .ref A_sound, .ref A_reader, .ref aA_refused, .ref aA_heardBy])), (aN, .inr (0, [.int N_width, .int N_height, .long N_everywhere, .long N_firstColumn, .long N_lastColumn, .ref aN_grounds, .ref aN_airs, .ref aN_tolds, .ref aN_fees, .ref aN_lets, .int N_makers, .ref aN_kinds, .ref aN_cells, .ref aN_selves, .ref aN_cries, .int N_leaves, .ref aN_parts, .int N_pasts, .ref aN_past]))] (some (.int res)) [(aA, .inr (3, [.ref aN, .ref A_draft, .ref aA_images, .ref aA_kept, .ref A_sound, .ref A_reader, .ref aA_refused, .ref aA_heardBy])), (aN, .inr (0, [.int N_width, .int N_height, .long N_everywhere, .long N_firstColumn, .long N_lastColumn, .ref aN_grounds, .ref aN_airs, .ref aN_tolds, .ref aN_fees, .ref aN_lets, .int N_makers, .ref aN_kinds, .ref aN_cells, .ref aN_selves, .ref aN_cries, .int N_leaves, .ref aN_parts, .int N_pasts, .ref aN_past]))] := by
  refine Ct.mk (by decide) (Nat.le_of_ble_eq_true rfl) ?_
  intro p e s m args below meth c ls A Q C hE hW hl hQ
  have C : Cx p s args m c meth "LentAir" y_Ai_isCell b_Ai_isCell 2 (some .boolean) := C
  have hl : lv_has ls 2 [(0, .ref aA), (1, .int p1)] := hl
  unfold f_Ai_isCell at h
  refine lv_iload_n C.1.1 C.1.2.1 d_Ai_isCell_0 rfl (lv_at hl 1 rfl) ?_
  refine lv_if_lt (tgt := 27) C.1.1 C.1.2.1 d_Ai_isCell_1 (by decide) (fun cc => ?_) (fun cc => ?_)
  · replace h := it_t cc h
    refine lv_iconst (v := 0) C.1.1 C.1.2.1 d_Ai_isCell_27 (by decide) ?_
    obtain rfl := Option.some.inj h
    exact x_zret C hW rfl rfl rfl hQ d_Ai_isCell_28
  · replace h := it_f cc h
    refine lv_iload_n C.1.1 C.1.2.1 d_Ai_isCell_4 rfl (lv_at hl 1 rfl) ?_
    refine lv_aload_n C.1.1 C.1.2.1 d_Ai_isCell_5 rfl (lv_at hl 0 rfl) ?_
    refine x_get C hE hW fl_Ai_12 0 rfl rfl d_Ai_isCell_6 ?_
    refine x_get C hE hW fl_Ai_230 1 rfl rfl d_Ai_isCell_9 ?_
    refine lv_aload_n C.1.1 C.1.2.1 d_Ai_isCell_12 rfl (lv_at hl 0 rfl) ?_
    refine x_get C hE hW fl_Ai_12 0 rfl rfl d_Ai_isCell_13 ?_
    refine x_get C hE hW fl_Ai_233 1 rfl rfl d_Ai_isCell_16 ?_
    refine lv_imul C.1.1 C.1.2.1 d_Ai_isCell_19 ?_
    refine lv_icmp_ge (tgt := 27) C.1.1 C.1.2.1 d_Ai_isCell_20 (by decide) (fun cc => ?_) (fun cc => ?_)
    · replace h := it_t cc h
      refine lv_iconst (v := 0) C.1.1 C.1.2.1 d_Ai_isCell_27 (by decide) ?_
      obtain rfl := Option.some.inj h
      exact x_zret C hW rfl rfl rfl hQ d_Ai_isCell_28
    · replace h := it_f cc h
      refine lv_iconst (v := 1) C.1.1 C.1.2.1 d_Ai_isCell_23 (by decide) ?_
      refine lv_goto (tgt := 28) C.1.1 C.1.2.1 d_Ai_isCell_24 (by decide) ?_
      obtain rfl := Option.some.inj h
      exact x_zret C hW rfl rfl rfl hQ d_Ai_isCell_28
set_option maxHeartbeats 4000000 in
set_option maxRecDepth 100000 in
theorem c_Ai_put (l : Launch) (G : Gl) (aA : Nat) (aA_images : Nat) (aA_kept : Nat) (aA_refused : Nat) (aA_heardBy : Nat) (aN : Nat) (aN_grounds : Nat) (aN_airs : Nat) (aN_tolds : Nat) (aN_fees : Nat) (aN_lets : Nat) (aN_kinds : Nat) (aN_cells : Nat) (aN_selves : Nat) (aN_cries : Nat) (aN_parts : Nat) (aN_past : Nat) (A_draft : Nat) (A_sound : Nat) (A_reader : Nat) (N_width : Int32) (N_height : Int32) (N_everywhere : Int64) (N_firstColumn : Int64) (N_lastColumn : Int64) (N_makers : Int32) (N_leaves : Int32) (N_pasts : Int32) (A_refused : Nat → Int32) (N_grounds : Nat → Int64) (N_airs : Nat → Int64) (p1 : Int32) (p2 : Int32) (p3 : Int32) {res : Int32 × (Nat → Int32) × (Nat → Int64) × (Nat → Int64)} (h : f_Ai_put N_width N_height A_refused N_grounds N_airs p1 p2 p3 = some res) : Ct l y_Ai_put b_Ai_put 4 (some .int) 3 70 G [.ref aA, .int p1, .int p2, .int p3] [(aA, .inr (3, [.ref aN, .ref A_draft, .ref aA_images, .ref aA_kept, .ref A_sound, .ref A_reader, .ref aA_refused, .ref aA_heardBy])), (aA_refused, .inl (gI G, 3, .inl A_refused)), (aN, .inr (0, [.int N_width, .int N_height, .long N_everywhere, .long N_firstColumn, .long N_lastColumn, .ref aN_grounds, .ref aN_airs, .ref aN_tolds, .ref aN_fees, .ref aN_lets, .int N_makers, .ref aN_kinds, .ref aN_cells, .ref aN_selves, .ref aN_cries, .int N_leaves, .ref aN_parts, .int N_pasts, .ref aN_past])), (aN_grounds, .inl (gJ G, 3, .inr (.inl N_grounds))), (aN_airs, .inl (gJ G, 6, .inr (.inl N_airs)))] (some (.int res.1)) [(aA, .inr (3, [.ref aN, .ref A_draft, .ref aA_images, .ref aA_kept, .ref A_sound, .ref A_reader, .ref aA_refused, .ref aA_heardBy])), (aA_refused, .inl (gI G, 3, .inl (res.2.1))), (aN, .inr (0, [.int N_width, .int N_height, .long N_everywhere, .long N_firstColumn, .long N_lastColumn, .ref aN_grounds, .ref aN_airs, .ref aN_tolds, .ref aN_fees, .ref aN_lets, .int N_makers, .ref aN_kinds, .ref aN_cells, .ref aN_selves, .ref aN_cries, .int N_leaves, .ref aN_parts, .int N_pasts, .ref aN_past])), (aN_grounds, .inl (gJ G, 3, .inr (.inl (res.2.2.1)))), (aN_airs, .inl (gJ G, 6, .inr (.inl (res.2.2.2))))] := by
  refine Ct.mk (by decide) (Nat.le_of_ble_eq_true rfl) ?_
  intro p e s m args below meth c ls A Q C hE hW hl hQ
  have C : Cx p s args m c meth "LentAir" y_Ai_put b_Ai_put 4 (some .int) := C
  have hl : lv_has ls 4 [(0, .ref aA), (1, .int p1), (2, .int p2), (3, .int p3)] := hl
  unfold f_Ai_put at h
  refine lv_aload_n C.1.1 C.1.2.1 d_Ai_put_0 rfl (lv_at hl 0 rfl) ?_
  refine lv_iload_n C.1.1 C.1.2.1 d_Ai_put_1 rfl (lv_at hl 2 rfl) ?_
  obtain ⟨x1, hc2, h⟩ := bd_at h
  refine x_callV (ws' := [(aA, .inr (3, [.ref aN, .ref A_draft, .ref aA_images, .ref aA_kept, .ref A_sound, .ref A_reader, .ref aA_refused, .ref aA_heardBy])), (aA_refused, .inl (gI G, 3, .inl A_refused)), (aN, .inr (0, [.int N_width, .int N_height, .long N_everywhere, .long N_firstColumn, .long N_lastColumn, .ref aN_grounds, .ref aN_airs, .ref aN_tolds, .ref aN_fees, .ref aN_lets, .int N_makers, .ref aN_kinds, .ref aN_cells, .ref aN_selves, .ref aN_cries, .int N_leaves, .ref aN_parts, .int N_pasts, .ref aN_past])), (aN_grounds, .inl (gJ G, 3, .inr (.inl N_grounds))), (aN_airs, .inl (gJ G, 6, .inr (.inl N_airs)))]) (stk := [.int x1]) (rest := []) (As := [.int p2]) (q0 := 0) C hE hW (c_Ai_isCell l G aA aA_images aA_kept aA_refused aA_heardBy aN aN_grounds aN_airs aN_tolds aN_fees aN_lets aN_kinds aN_cells aN_selves aN_cries aN_parts aN_past A_draft A_sound A_reader N_width N_height N_everywhere N_firstColumn N_lastColumn N_makers N_leaves N_pasts p2 hc2) cv_Ai_isCell tw321 hl rfl rfl (Nat.le_of_ble_eq_true rfl) rfl rfl rfl ⟨Nat.le_of_ble_eq_true rfl, Nat.le_of_ble_eq_true rfl⟩ ⟨Nat.zero_le _, Nat.zero_le _⟩ [0, 2] [1, 3, 4] [3, 0, 4, 1, 2] rfl rfl rfl (by decide) rfl rfl rfl rfl d_Ai_put_2 (fun H locs hW => ?_)
  refine jn_at (P := fun (_ : Unit) => ∀ (H : Heap) (locs : List Loc) (ls : Array Slot), Wd G A s.heap H locs [(aA, .inr (3, [.ref aN, .ref A_draft, .ref aA_images, .ref aA_kept, .ref A_sound, .ref A_reader, .ref aA_refused, .ref aA_heardBy])), (aA_refused, .inl (gI G, 3, .inl A_refused)), (aN, .inr (0, [.int N_width, .int N_height, .long N_everywhere, .long N_firstColumn, .long N_lastColumn, .ref aN_grounds, .ref aN_airs, .ref aN_tolds, .ref aN_fees, .ref aN_lets, .int N_makers, .ref aN_kinds, .ref aN_cells, .ref aN_selves, .ref aN_cries, .int N_leaves, .ref aN_parts, .int N_pasts, .ref aN_past])), (aN_grounds, .inl (gJ G, 3, .inr (.inl N_grounds))), (aN_airs, .inl (gJ G, 6, .inr (.inl N_airs)))] → lv_has ls 4 [(0, .ref aA)] → W p l e (RM 3 70) s m args below meth c H locs 0 0 Q (F0 m 12 ls [])) h ?_ ?_
  · skip
    intro _ h
    intro H locs ls hW hl
    refine lv_aload_n C.1.1 C.1.2.1 d_Ai_put_12 rfl (lv_at hl 0 rfl) ?_
    refine lv_bipush (v := (-2)) C.1.1 C.1.2.1 d_Ai_put_13 (by decide) ?_
    obtain ⟨⟨x3, x4⟩, hc5, h⟩ := bd_at h
    refine x_callV (ws' := [(aA, .inr (3, [.ref aN, .ref A_draft, .ref aA_images, .ref aA_kept, .ref A_sound, .ref A_reader, .ref aA_refused, .ref aA_heardBy])), (aA_refused, .inl (gI G, 3, .inl x4)), (aN, .inr (0, [.int N_width, .int N_height, .long N_everywhere, .long N_firstColumn, .long N_lastColumn, .ref aN_grounds, .ref aN_airs, .ref aN_tolds, .ref aN_fees, .ref aN_lets, .int N_makers, .ref aN_kinds, .ref aN_cells, .ref aN_selves, .ref aN_cries, .int N_leaves, .ref aN_parts, .int N_pasts, .ref aN_past])), (aN_grounds, .inl (gJ G, 3, .inr (.inl N_grounds))), (aN_airs, .inl (gJ G, 6, .inr (.inl N_airs)))]) (stk := [.int x3]) (rest := []) (As := [.int (-2)]) (q0 := 0) C hE hW (c_Ai_refuse l G aA aA_images aA_kept aA_refused aA_heardBy aN A_draft A_sound A_reader A_refused (-2) hc5) cv_Ai_refuse tw308 hl rfl rfl (Nat.le_of_ble_eq_true rfl) rfl rfl rfl ⟨Nat.le_of_ble_eq_true rfl, Nat.le_of_ble_eq_true rfl⟩ ⟨Nat.zero_le _, Nat.zero_le _⟩ [0, 1] [2, 3, 4] [3, 4, 0, 1, 2] rfl rfl rfl (by decide) rfl rfl rfl rfl d_Ai_put_15 (fun H locs hW => ?_)
    obtain rfl := Option.some.inj h
    exact x_iret C hW rfl rfl hQ d_Ai_put_18
  · intro J12 hJ12 h
    refine lv_if_eq (tgt := 12) C.1.1 C.1.2.1 d_Ai_put_5 (by decide) (fun cc => ?_) (fun cc => ?_)
    · replace h := it_t cc h
      exact hJ12 _ h _ _ _ hW (lv_sub hl [0] rfl)
    · replace h := it_f cc h
      refine lv_iload_n C.1.1 C.1.2.1 d_Ai_put_8 rfl (lv_at hl 3 rfl) ?_
      refine lv_if_ge (tgt := 19) C.1.1 C.1.2.1 d_Ai_put_9 (by decide) (fun cc => ?_) (fun cc => ?_)
      · replace h := it_t cc h
        refine lv_iload_n C.1.1 C.1.2.1 d_Ai_put_19 rfl (lv_at hl 1 rfl) ?_
        refine jn_at (P := fun (_ : Unit) => ∀ (H : Heap) (locs : List Loc) (ls : Array Slot), Wd G A s.heap H locs [(aA, .inr (3, [.ref aN, .ref A_draft, .ref aA_images, .ref aA_kept, .ref A_sound, .ref A_reader, .ref aA_refused, .ref aA_heardBy])), (aA_refused, .inl (gI G, 3, .inl A_refused)), (aN, .inr (0, [.int N_width, .int N_height, .long N_everywhere, .long N_firstColumn, .long N_lastColumn, .ref aN_grounds, .ref aN_airs, .ref aN_tolds, .ref aN_fees, .ref aN_lets, .int N_makers, .ref aN_kinds, .ref aN_cells, .ref aN_selves, .ref aN_cries, .int N_leaves, .ref aN_parts, .int N_pasts, .ref aN_past])), (aN_grounds, .inl (gJ G, 3, .inr (.inl N_grounds))), (aN_airs, .inl (gJ G, 6, .inr (.inl N_airs)))] → lv_has ls 4 [(0, .ref aA), (1, .int p1), (2, .int p2), (3, .int p3)] → W p l e (RM 3 70) s m args below meth c H locs 0 0 Q (F0 m 41 ls [])) h ?_ ?_
        · skip
          intro _ h
          intro H locs ls hW hl
          refine lv_iload_n C.1.1 C.1.2.1 d_Ai_put_41 rfl (lv_at hl 1 rfl) ?_
          refine lv_iconst (v := 1) C.1.1 C.1.2.1 d_Ai_put_42 (by decide) ?_
          refine jn_at (P := fun (_ : Unit) => ∀ (H : Heap) (locs : List Loc) (ls : Array Slot), Wd G A s.heap H locs [(aA, .inr (3, [.ref aN, .ref A_draft, .ref aA_images, .ref aA_kept, .ref A_sound, .ref A_reader, .ref aA_refused, .ref aA_heardBy])), (aA_refused, .inl (gI G, 3, .inl A_refused)), (aN, .inr (0, [.int N_width, .int N_height, .long N_everywhere, .long N_firstColumn, .long N_lastColumn, .ref aN_grounds, .ref aN_airs, .ref aN_tolds, .ref aN_fees, .ref aN_lets, .int N_makers, .ref aN_kinds, .ref aN_cells, .ref aN_selves, .ref aN_cries, .int N_leaves, .ref aN_parts, .int N_pasts, .ref aN_past])), (aN_grounds, .inl (gJ G, 3, .inr (.inl N_grounds))), (aN_airs, .inl (gJ G, 6, .inr (.inl N_airs)))] → lv_has ls 4 [(0, .ref aA)] → W p l e (RM 3 70) s m args below meth c H locs 0 0 Q (F0 m 65 ls [])) h ?_ ?_
          · skip
            intro _ h
            intro H locs ls hW hl
            refine lv_aload_n C.1.1 C.1.2.1 d_Ai_put_65 rfl (lv_at hl 0 rfl) ?_
            refine lv_bipush (v := (-2)) C.1.1 C.1.2.1 d_Ai_put_66 (by decide) ?_
            obtain ⟨⟨x6, x7⟩, hc8, h⟩ := bd_at h
            refine x_callV (ws' := [(aA, .inr (3, [.ref aN, .ref A_draft, .ref aA_images, .ref aA_kept, .ref A_sound, .ref A_reader, .ref aA_refused, .ref aA_heardBy])), (aA_refused, .inl (gI G, 3, .inl x7)), (aN, .inr (0, [.int N_width, .int N_height, .long N_everywhere, .long N_firstColumn, .long N_lastColumn, .ref aN_grounds, .ref aN_airs, .ref aN_tolds, .ref aN_fees, .ref aN_lets, .int N_makers, .ref aN_kinds, .ref aN_cells, .ref aN_selves, .ref aN_cries, .int N_leaves, .ref aN_parts, .int N_pasts, .ref aN_past])), (aN_grounds, .inl (gJ G, 3, .inr (.inl N_grounds))), (aN_airs, .inl (gJ G, 6, .inr (.inl N_airs)))]) (stk := [.int x6]) (rest := []) (As := [.int (-2)]) (q0 := 0) C hE hW (c_Ai_refuse l G aA aA_images aA_kept aA_refused aA_heardBy aN A_draft A_sound A_reader A_refused (-2) hc8) cv_Ai_refuse tw308 hl rfl rfl (Nat.le_of_ble_eq_true rfl) rfl rfl rfl ⟨Nat.le_of_ble_eq_true rfl, Nat.le_of_ble_eq_true rfl⟩ ⟨Nat.zero_le _, Nat.zero_le _⟩ [0, 1] [2, 3, 4] [3, 4, 0, 1, 2] rfl rfl rfl (by decide) rfl rfl rfl rfl d_Ai_put_68 (fun H locs hW => ?_)
            obtain rfl := Option.some.inj h
            exact x_iret C hW rfl rfl hQ d_Ai_put_71
          · intro J65 hJ65 h
            refine lv_icmp_ne (tgt := 65) C.1.1 C.1.2.1 d_Ai_put_43 (by decide) (fun cc => ?_) (fun cc => ?_)
            · replace h := it_f cc h
              exact hJ65 _ h _ _ _ hW (lv_sub hl [0] rfl)
            · replace h := it_t cc h
              refine lv_iload_n C.1.1 C.1.2.1 d_Ai_put_46 rfl (lv_at hl 3 rfl) ?_
              refine lv_bipush (v := 6) C.1.1 C.1.2.1 d_Ai_put_47 (by decide) ?_
              refine lv_icmp_ge (tgt := 65) C.1.1 C.1.2.1 d_Ai_put_49 (by decide) (fun cc => ?_) (fun cc => ?_)
              · replace h := it_t cc h
                exact hJ65 _ h _ _ _ hW (lv_sub hl [0] rfl)
              · replace h := it_f cc h
                refine lv_aload_n C.1.1 C.1.2.1 d_Ai_put_52 rfl (lv_at hl 0 rfl) ?_
                refine x_get C hE hW fl_Ai_12 0 rfl rfl d_Ai_put_53 ?_
                refine x_get C hE hW fl_Ai_70 2 rfl rfl d_Ai_put_56 ?_
                refine lv_iload_n C.1.1 C.1.2.1 d_Ai_put_59 rfl (lv_at hl 2 rfl) ?_
                refine lv_iload_n C.1.1 C.1.2.1 d_Ai_put_60 rfl (lv_at hl 3 rfl) ?_
                obtain ⟨⟨x9, x10⟩, hc11, h⟩ := bd_at h
                refine x_callS (ws' := [(aA, .inr (3, [.ref aN, .ref A_draft, .ref aA_images, .ref aA_kept, .ref A_sound, .ref A_reader, .ref aA_refused, .ref aA_heardBy])), (aA_refused, .inl (gI G, 3, .inl A_refused)), (aN, .inr (0, [.int N_width, .int N_height, .long N_everywhere, .long N_firstColumn, .long N_lastColumn, .ref aN_grounds, .ref aN_airs, .ref aN_tolds, .ref aN_fees, .ref aN_lets, .int N_makers, .ref aN_kinds, .ref aN_cells, .ref aN_selves, .ref aN_cries, .int N_leaves, .ref aN_parts, .int N_pasts, .ref aN_past])), (aN_grounds, .inl (gJ G, 3, .inr (.inl N_grounds))), (aN_airs, .inl (gJ G, 6, .inr (.inl x10)))]) (stk := [.int x9]) (rest := []) (As := [.ref aN_airs, .int p2, .int p3]) C hE hW (c_Ld_sortInto l G aN_airs 6 N_airs p2 p3 hc11) cv_Ld_sortInto tw325 hl rfl rfl (Nat.le_of_ble_eq_true rfl) ⟨Nat.le_of_ble_eq_true rfl, Nat.le_of_ble_eq_true rfl⟩ ⟨Nat.zero_le _, Nat.zero_le _⟩ [4] [0, 1, 2, 3] [0, 1, 2, 3, 4] rfl rfl rfl (by decide) rfl rfl rfl rfl d_Ai_put_61 (fun H locs hW => ?_)
                obtain rfl := Option.some.inj h
                exact x_iret C hW rfl rfl hQ d_Ai_put_64
        · intro J41 hJ41 h
          refine lv_if_ne (tgt := 41) C.1.1 C.1.2.1 d_Ai_put_20 (by decide) (fun cc => ?_) (fun cc => ?_)
          · replace h := it_f cc h
            exact hJ41 _ h _ _ _ hW (lv_sub hl [0, 1, 2, 3] rfl)
          · replace h := it_t cc h
            refine lv_iload_n C.1.1 C.1.2.1 d_Ai_put_23 rfl (lv_at hl 3 rfl) ?_
            refine lv_iconst (v := 3) C.1.1 C.1.2.1 d_Ai_put_24 (by decide) ?_
            refine lv_icmp_ge (tgt := 41) C.1.1 C.1.2.1 d_Ai_put_25 (by decide) (fun cc => ?_) (fun cc => ?_)
            · replace h := it_t cc h
              exact hJ41 _ h _ _ _ hW (lv_sub hl [0, 1, 2, 3] rfl)
            · replace h := it_f cc h
              refine lv_aload_n C.1.1 C.1.2.1 d_Ai_put_28 rfl (lv_at hl 0 rfl) ?_
              refine x_get C hE hW fl_Ai_12 0 rfl rfl d_Ai_put_29 ?_
              refine x_get C hE hW fl_Ai_62 2 rfl rfl d_Ai_put_32 ?_
              refine lv_iload_n C.1.1 C.1.2.1 d_Ai_put_35 rfl (lv_at hl 2 rfl) ?_
              refine lv_iload_n C.1.1 C.1.2.1 d_Ai_put_36 rfl (lv_at hl 3 rfl) ?_
              obtain ⟨⟨x12, x13⟩, hc14, h⟩ := bd_at h
              refine x_callS (ws' := [(aA, .inr (3, [.ref aN, .ref A_draft, .ref aA_images, .ref aA_kept, .ref A_sound, .ref A_reader, .ref aA_refused, .ref aA_heardBy])), (aA_refused, .inl (gI G, 3, .inl A_refused)), (aN, .inr (0, [.int N_width, .int N_height, .long N_everywhere, .long N_firstColumn, .long N_lastColumn, .ref aN_grounds, .ref aN_airs, .ref aN_tolds, .ref aN_fees, .ref aN_lets, .int N_makers, .ref aN_kinds, .ref aN_cells, .ref aN_selves, .ref aN_cries, .int N_leaves, .ref aN_parts, .int N_pasts, .ref aN_past])), (aN_grounds, .inl (gJ G, 3, .inr (.inl x13))), (aN_airs, .inl (gJ G, 6, .inr (.inl N_airs)))]) (stk := [.int x12]) (rest := []) (As := [.ref aN_grounds, .int p2, .int p3]) C hE hW (c_Ld_sortInto l G aN_grounds 3 N_grounds p2 p3 hc14) cv_Ld_sortInto tw325 hl rfl rfl (Nat.le_of_ble_eq_true rfl) ⟨Nat.le_of_ble_eq_true rfl, Nat.le_of_ble_eq_true rfl⟩ ⟨Nat.zero_le _, Nat.zero_le _⟩ [3] [0, 1, 2, 4] [0, 1, 2, 4, 3] rfl rfl rfl (by decide) rfl rfl rfl rfl d_Ai_put_37 (fun H locs hW => ?_)
              obtain rfl := Option.some.inj h
              exact x_iret C hW rfl rfl hQ d_Ai_put_40
      · replace h := it_f cc h
        exact hJ12 _ h _ _ _ hW (lv_sub hl [0] rfl)
set_option maxHeartbeats 4000000 in
set_option maxRecDepth 100000 in
theorem c_Ai_isOwner (l : Launch) (G : Gl) (p1 : Int32) {res : Int32} (h : f_Ai_isOwner p1 = some res) : Ct l y_Ai_isOwner b_Ai_isOwner 1 (some .boolean) 0 0 G [.int p1] [] (some (.int res)) [] := by
  refine Ct.mk (by decide) (Nat.le_of_ble_eq_true rfl) ?_
  intro p e s m args below meth c ls A Q C hE hW hl hQ
  have C : Cx p s args m c meth "LentAir" y_Ai_isOwner b_Ai_isOwner 1 (some .boolean) := C
  have hl : lv_has ls 1 [(0, .int p1)] := hl
  unfold f_Ai_isOwner at h
  refine lv_iload_n C.1.1 C.1.2.1 d_Ai_isOwner_0 rfl (lv_at hl 0 rfl) ?_
  refine lv_if_lt (tgt := 14) C.1.1 C.1.2.1 d_Ai_isOwner_1 (by decide) (fun cc => ?_) (fun cc => ?_)
  · replace h := it_t cc h
    refine lv_iconst (v := 0) C.1.1 C.1.2.1 d_Ai_isOwner_14 (by decide) ?_
    obtain rfl := Option.some.inj h
    exact x_zret C hW rfl rfl rfl hQ d_Ai_isOwner_15
  · replace h := it_f cc h
    refine lv_iload_n C.1.1 C.1.2.1 d_Ai_isOwner_4 rfl (lv_at hl 0 rfl) ?_
    refine lv_bipush (v := 6) C.1.1 C.1.2.1 d_Ai_isOwner_5 (by decide) ?_
    refine lv_icmp_ge (tgt := 14) C.1.1 C.1.2.1 d_Ai_isOwner_7 (by decide) (fun cc => ?_) (fun cc => ?_)
    · replace h := it_t cc h
      refine lv_iconst (v := 0) C.1.1 C.1.2.1 d_Ai_isOwner_14 (by decide) ?_
      obtain rfl := Option.some.inj h
      exact x_zret C hW rfl rfl rfl hQ d_Ai_isOwner_15
    · replace h := it_f cc h
      refine lv_iconst (v := 1) C.1.1 C.1.2.1 d_Ai_isOwner_10 (by decide) ?_
      refine lv_goto (tgt := 15) C.1.1 C.1.2.1 d_Ai_isOwner_11 (by decide) ?_
      obtain rfl := Option.some.inj h
      exact x_zret C hW rfl rfl rfl hQ d_Ai_isOwner_15
set_option maxHeartbeats 4000000 in
set_option maxRecDepth 100000 in
theorem c_Ai_fee (l : Launch) (G : Gl) (aA : Nat) (aA_images : Nat) (aA_kept : Nat) (aA_refused : Nat) (aA_heardBy : Nat) (aN : Nat) (aN_grounds : Nat) (aN_airs : Nat) (aN_tolds : Nat) (aN_fees : Nat) (aN_lets : Nat) (aN_kinds : Nat) (aN_cells : Nat) (aN_selves : Nat) (aN_cries : Nat) (aN_parts : Nat) (aN_past : Nat) (A_draft : Nat) (A_sound : Nat) (A_reader : Nat) (N_width : Int32) (N_height : Int32) (N_everywhere : Int64) (N_firstColumn : Int64) (N_lastColumn : Int64) (N_makers : Int32) (N_leaves : Int32) (N_pasts : Int32) (A_refused : Nat → Int32) (N_fees : Nat → Int32) (p1 : Int32) (p2 : Int32) {res : Int32 × (Nat → Int32) × (Nat → Int32)} (h : f_Ai_fee A_refused N_fees p1 p2 = some res) : Ct l y_Ai_fee b_Ai_fee 3 (some .int) 2 44 G [.ref aA, .int p1, .int p2] [(aA, .inr (3, [.ref aN, .ref A_draft, .ref aA_images, .ref aA_kept, .ref A_sound, .ref A_reader, .ref aA_refused, .ref aA_heardBy])), (aA_refused, .inl (gI G, 3, .inl A_refused)), (aN, .inr (0, [.int N_width, .int N_height, .long N_everywhere, .long N_firstColumn, .long N_lastColumn, .ref aN_grounds, .ref aN_airs, .ref aN_tolds, .ref aN_fees, .ref aN_lets, .int N_makers, .ref aN_kinds, .ref aN_cells, .ref aN_selves, .ref aN_cries, .int N_leaves, .ref aN_parts, .int N_pasts, .ref aN_past])), (aN_fees, .inl (gI G, 6, .inl N_fees))] (some (.int res.1)) [(aA, .inr (3, [.ref aN, .ref A_draft, .ref aA_images, .ref aA_kept, .ref A_sound, .ref A_reader, .ref aA_refused, .ref aA_heardBy])), (aA_refused, .inl (gI G, 3, .inl (res.2.1))), (aN, .inr (0, [.int N_width, .int N_height, .long N_everywhere, .long N_firstColumn, .long N_lastColumn, .ref aN_grounds, .ref aN_airs, .ref aN_tolds, .ref aN_fees, .ref aN_lets, .int N_makers, .ref aN_kinds, .ref aN_cells, .ref aN_selves, .ref aN_cries, .int N_leaves, .ref aN_parts, .int N_pasts, .ref aN_past])), (aN_fees, .inl (gI G, 6, .inl (res.2.2)))] := by
  refine Ct.mk (by decide) (Nat.le_of_ble_eq_true rfl) ?_
  intro p e s m args below meth c ls A Q C hE hW hl hQ
  have C : Cx p s args m c meth "LentAir" y_Ai_fee b_Ai_fee 3 (some .int) := C
  have hl : lv_has ls 3 [(0, .ref aA), (1, .int p1), (2, .int p2)] := hl
  unfold f_Ai_fee at h
  refine lv_iload_n C.1.1 C.1.2.1 d_Ai_fee_0 rfl (lv_at hl 1 rfl) ?_
  obtain ⟨x1, hc2, h⟩ := bd_at h
  refine x_callS (ws' := [(aA, .inr (3, [.ref aN, .ref A_draft, .ref aA_images, .ref aA_kept, .ref A_sound, .ref A_reader, .ref aA_refused, .ref aA_heardBy])), (aA_refused, .inl (gI G, 3, .inl A_refused)), (aN, .inr (0, [.int N_width, .int N_height, .long N_everywhere, .long N_firstColumn, .long N_lastColumn, .ref aN_grounds, .ref aN_airs, .ref aN_tolds, .ref aN_fees, .ref aN_lets, .int N_makers, .ref aN_kinds, .ref aN_cells, .ref aN_selves, .ref aN_cries, .int N_leaves, .ref aN_parts, .int N_pasts, .ref aN_past])), (aN_fees, .inl (gI G, 6, .inl N_fees))]) (stk := [.int x1]) (rest := []) (As := [.int p1]) C hE hW (c_Ai_isOwner l G p1 hc2) cv_Ai_isOwner tw339 hl rfl rfl (Nat.le_of_ble_eq_true rfl) ⟨Nat.le_of_ble_eq_true rfl, Nat.le_of_ble_eq_true rfl⟩ ⟨Nat.zero_le _, Nat.zero_le _⟩ [] [0, 1, 2, 3] [0, 1, 2, 3] rfl rfl rfl (by decide) rfl rfl rfl rfl d_Ai_fee_1 (fun H locs hW => ?_)
  refine jn_at (P := fun (_ : Unit) => ∀ (H : Heap) (locs : List Loc) (ls : Array Slot), Wd G A s.heap H locs [(aA, .inr (3, [.ref aN, .ref A_draft, .ref aA_images, .ref aA_kept, .ref A_sound, .ref A_reader, .ref aA_refused, .ref aA_heardBy])), (aA_refused, .inl (gI G, 3, .inl A_refused)), (aN, .inr (0, [.int N_width, .int N_height, .long N_everywhere, .long N_firstColumn, .long N_lastColumn, .ref aN_grounds, .ref aN_airs, .ref aN_tolds, .ref aN_fees, .ref aN_lets, .int N_makers, .ref aN_kinds, .ref aN_cells, .ref aN_selves, .ref aN_cries, .int N_leaves, .ref aN_parts, .int N_pasts, .ref aN_past])), (aN_fees, .inl (gI G, 6, .inl N_fees))] → lv_has ls 3 [(0, .ref aA)] → W p l e (RM 2 44) s m args below meth c H locs 0 0 Q (F0 m 17 ls [])) h ?_ ?_
  · skip
    intro _ h
    intro H locs ls hW hl
    refine lv_aload_n C.1.1 C.1.2.1 d_Ai_fee_17 rfl (lv_at hl 0 rfl) ?_
    refine lv_bipush (v := (-2)) C.1.1 C.1.2.1 d_Ai_fee_18 (by decide) ?_
    obtain ⟨⟨x3, x4⟩, hc5, h⟩ := bd_at h
    refine x_callV (ws' := [(aA, .inr (3, [.ref aN, .ref A_draft, .ref aA_images, .ref aA_kept, .ref A_sound, .ref A_reader, .ref aA_refused, .ref aA_heardBy])), (aA_refused, .inl (gI G, 3, .inl x4)), (aN, .inr (0, [.int N_width, .int N_height, .long N_everywhere, .long N_firstColumn, .long N_lastColumn, .ref aN_grounds, .ref aN_airs, .ref aN_tolds, .ref aN_fees, .ref aN_lets, .int N_makers, .ref aN_kinds, .ref aN_cells, .ref aN_selves, .ref aN_cries, .int N_leaves, .ref aN_parts, .int N_pasts, .ref aN_past])), (aN_fees, .inl (gI G, 6, .inl N_fees))]) (stk := [.int x3]) (rest := []) (As := [.int (-2)]) (q0 := 0) C hE hW (c_Ai_refuse l G aA aA_images aA_kept aA_refused aA_heardBy aN A_draft A_sound A_reader A_refused (-2) hc5) cv_Ai_refuse tw308 hl rfl rfl (Nat.le_of_ble_eq_true rfl) rfl rfl rfl ⟨Nat.le_of_ble_eq_true rfl, Nat.le_of_ble_eq_true rfl⟩ ⟨Nat.zero_le _, Nat.zero_le _⟩ [0, 1] [2, 3] [2, 3, 0, 1] rfl rfl rfl (by decide) rfl rfl rfl rfl d_Ai_fee_20 (fun H locs hW => ?_)
    obtain rfl := Option.some.inj h
    exact x_iret C hW rfl rfl hQ d_Ai_fee_23
  · intro J17 hJ17 h
    refine lv_if_eq (tgt := 17) C.1.1 C.1.2.1 d_Ai_fee_4 (by decide) (fun cc => ?_) (fun cc => ?_)
    · replace h := it_t cc h
      exact hJ17 _ h _ _ _ hW (lv_sub hl [0] rfl)
    · replace h := it_f cc h
      refine lv_iload_n C.1.1 C.1.2.1 d_Ai_fee_7 rfl (lv_at hl 2 rfl) ?_
      refine lv_if_lt (tgt := 17) C.1.1 C.1.2.1 d_Ai_fee_8 (by decide) (fun cc => ?_) (fun cc => ?_)
      · replace h := it_t cc h
        exact hJ17 _ h _ _ _ hW (lv_sub hl [0] rfl)
      · replace h := it_f cc h
        refine lv_iload_n C.1.1 C.1.2.1 d_Ai_fee_11 rfl (lv_at hl 2 rfl) ?_
        refine lv_bipush (v := 99) C.1.1 C.1.2.1 d_Ai_fee_12 (by decide) ?_
        refine lv_icmp_le (tgt := 24) C.1.1 C.1.2.1 d_Ai_fee_14 (by decide) (fun cc => ?_) (fun cc => ?_)
        · replace h := it_t cc h
          refine lv_aload_n C.1.1 C.1.2.1 d_Ai_fee_24 rfl (lv_at hl 0 rfl) ?_
          refine x_get C hE hW fl_Ai_12 0 rfl rfl d_Ai_fee_25 ?_
          refine lv_iload_n C.1.1 C.1.2.1 d_Ai_fee_28 rfl (lv_at hl 1 rfl) ?_
          refine lv_iload_n C.1.1 C.1.2.1 d_Ai_fee_29 rfl (lv_at hl 2 rfl) ?_
          obtain ⟨⟨x6, x7⟩, hc8, h⟩ := bd_at h
          refine x_callV (ws' := [(aA, .inr (3, [.ref aN, .ref A_draft, .ref aA_images, .ref aA_kept, .ref A_sound, .ref A_reader, .ref aA_refused, .ref aA_heardBy])), (aA_refused, .inl (gI G, 3, .inl A_refused)), (aN, .inr (0, [.int N_width, .int N_height, .long N_everywhere, .long N_firstColumn, .long N_lastColumn, .ref aN_grounds, .ref aN_airs, .ref aN_tolds, .ref aN_fees, .ref aN_lets, .int N_makers, .ref aN_kinds, .ref aN_cells, .ref aN_selves, .ref aN_cries, .int N_leaves, .ref aN_parts, .int N_pasts, .ref aN_past])), (aN_fees, .inl (gI G, 6, .inl x7))]) (stk := [.int x6]) (rest := []) (As := [.int p1, .int p2]) (q0 := 2) C hE hW (c_Ld_changeFee l G aN aN_grounds aN_airs aN_tolds aN_fees aN_lets aN_kinds aN_cells aN_selves aN_cries aN_parts aN_past N_width N_height N_everywhere N_firstColumn N_lastColumn N_makers N_leaves N_pasts N_fees p1 p2 hc8) cv_Ld_changeFee tw342 hl rfl rfl (Nat.le_of_ble_eq_true rfl) rfl rfl rfl ⟨Nat.le_of_ble_eq_true rfl, Nat.le_of_ble_eq_true rfl⟩ ⟨Nat.zero_le _, Nat.zero_le _⟩ [2, 3] [0, 1] [0, 1, 2, 3] rfl rfl rfl (by decide) rfl rfl rfl rfl d_Ai_fee_30 (fun H locs hW => ?_)
          obtain rfl := Option.some.inj h
          exact x_iret C hW rfl rfl hQ d_Ai_fee_33
        · replace h := it_f cc h
          exact hJ17 _ h _ _ _ hW (lv_sub hl [0] rfl)
set_option maxHeartbeats 4000000 in
set_option maxRecDepth 100000 in
theorem c_Ai_maker (l : Launch) (G : Gl) (aA : Nat) (aA_images : Nat) (aA_kept : Nat) (aA_refused : Nat) (aA_heardBy : Nat) (aN : Nat) (aN_grounds : Nat) (aN_airs : Nat) (aN_tolds : Nat) (aN_fees : Nat) (aN_lets : Nat) (aN_kinds : Nat) (aN_cells : Nat) (aN_selves : Nat) (aN_cries : Nat) (aN_parts : Nat) (aN_past : Nat) (A_draft : Nat) (A_sound : Nat) (A_reader : Nat) (N_width : Int32) (N_height : Int32) (N_everywhere : Int64) (N_firstColumn : Int64) (N_lastColumn : Int64) (N_makers : Int32) (N_leaves : Int32) (N_pasts : Int32) (A_refused : Nat → Int32) (N_kinds : Nat → Int32) (N_cells : Nat → Int32) (N_selves : Nat → Int32) (N_cries : Nat → Int32) (p1 : Int32) (p2 : Int32) (p3 : Int32) {res : Int32 × (Nat → Int32) × Int32 × (Nat → Int32) × (Nat → Int32) × (Nat → Int32) × (Nat → Int32)} (h : f_Ai_maker N_width N_height N_makers A_refused N_kinds N_cells N_selves N_cries p1 p2 p3 = some res) : Ct l y_Ai_maker b_Ai_maker 4 (some .int) 2 44 G [.ref aA, .int p1, .int p2, .int p3] [(aA, .inr (3, [.ref aN, .ref A_draft, .ref aA_images, .ref aA_kept, .ref A_sound, .ref A_reader, .ref aA_refused, .ref aA_heardBy])), (aA_refused, .inl (gI G, 3, .inl A_refused)), (aN, .inr (0, [.int N_width, .int N_height, .long N_everywhere, .long N_firstColumn, .long N_lastColumn, .ref aN_grounds, .ref aN_airs, .ref aN_tolds, .ref aN_fees, .ref aN_lets, .int N_makers, .ref aN_kinds, .ref aN_cells, .ref aN_selves, .ref aN_cries, .int N_leaves, .ref aN_parts, .int N_pasts, .ref aN_past])), (aN_kinds, .inl (gI G, 6, .inl N_kinds)), (aN_cells, .inl (gI G, 6, .inl N_cells)), (aN_selves, .inl (gI G, 6, .inl N_selves)), (aN_cries, .inl (gI G, 6, .inl N_cries))] (some (.int res.1)) [(aA, .inr (3, [.ref aN, .ref A_draft, .ref aA_images, .ref aA_kept, .ref A_sound, .ref A_reader, .ref aA_refused, .ref aA_heardBy])), (aA_refused, .inl (gI G, 3, .inl (res.2.1))), (aN, .inr (0, [.int N_width, .int N_height, .long N_everywhere, .long N_firstColumn, .long N_lastColumn, .ref aN_grounds, .ref aN_airs, .ref aN_tolds, .ref aN_fees, .ref aN_lets, .int (res.2.2.1), .ref aN_kinds, .ref aN_cells, .ref aN_selves, .ref aN_cries, .int N_leaves, .ref aN_parts, .int N_pasts, .ref aN_past])), (aN_kinds, .inl (gI G, 6, .inl (res.2.2.2.1))), (aN_cells, .inl (gI G, 6, .inl (res.2.2.2.2.1))), (aN_selves, .inl (gI G, 6, .inl (res.2.2.2.2.2.1))), (aN_cries, .inl (gI G, 6, .inl (res.2.2.2.2.2.2)))] := by
  refine Ct.mk (by decide) (Nat.le_of_ble_eq_true rfl) ?_
  intro p e s m args below meth c ls A Q C hE hW hl hQ
  have C : Cx p s args m c meth "LentAir" y_Ai_maker b_Ai_maker 4 (some .int) := C
  have hl : lv_has ls 4 [(0, .ref aA), (1, .int p1), (2, .int p2), (3, .int p3)] := hl
  unfold f_Ai_maker at h
  refine lv_iload_n C.1.1 C.1.2.1 d_Ai_maker_0 rfl (lv_at hl 1 rfl) ?_
  refine jn_at (P := fun (_ : Unit) => ∀ (H : Heap) (locs : List Loc) (ls : Array Slot), Wd G A s.heap H locs [(aA, .inr (3, [.ref aN, .ref A_draft, .ref aA_images, .ref aA_kept, .ref A_sound, .ref A_reader, .ref aA_refused, .ref aA_heardBy])), (aA_refused, .inl (gI G, 3, .inl A_refused)), (aN, .inr (0, [.int N_width, .int N_height, .long N_everywhere, .long N_firstColumn, .long N_lastColumn, .ref aN_grounds, .ref aN_airs, .ref aN_tolds, .ref aN_fees, .ref aN_lets, .int N_makers, .ref aN_kinds, .ref aN_cells, .ref aN_selves, .ref aN_cries, .int N_leaves, .ref aN_parts, .int N_pasts, .ref aN_past])), (aN_kinds, .inl (gI G, 6, .inl N_kinds)), (aN_cells, .inl (gI G, 6, .inl N_cells)), (aN_selves, .inl (gI G, 6, .inl N_selves)), (aN_cries, .inl (gI G, 6, .inl N_cries))] → lv_has ls 4 [(0, .ref aA)] → W p l e (RM 2 44) s m args below meth c H locs 0 0 Q (F0 m 25 ls [])) h ?_ ?_
  · skip
    intro _ h
    intro H locs ls hW hl
    refine lv_aload_n C.1.1 C.1.2.1 d_Ai_maker_25 rfl (lv_at hl 0 rfl) ?_
    refine lv_bipush (v := (-2)) C.1.1 C.1.2.1 d_Ai_maker_26 (by decide) ?_
    obtain ⟨⟨x1, x2⟩, hc3, h⟩ := bd_at h
    refine x_callV (ws' := [(aA, .inr (3, [.ref aN, .ref A_draft, .ref aA_images, .ref aA_kept, .ref A_sound, .ref A_reader, .ref aA_refused, .ref aA_heardBy])), (aA_refused, .inl (gI G, 3, .inl x2)), (aN, .inr (0, [.int N_width, .int N_height, .long N_everywhere, .long N_firstColumn, .long N_lastColumn, .ref aN_grounds, .ref aN_airs, .ref aN_tolds, .ref aN_fees, .ref aN_lets, .int N_makers, .ref aN_kinds, .ref aN_cells, .ref aN_selves, .ref aN_cries, .int N_leaves, .ref aN_parts, .int N_pasts, .ref aN_past])), (aN_kinds, .inl (gI G, 6, .inl N_kinds)), (aN_cells, .inl (gI G, 6, .inl N_cells)), (aN_selves, .inl (gI G, 6, .inl N_selves)), (aN_cries, .inl (gI G, 6, .inl N_cries))]) (stk := [.int x1]) (rest := []) (As := [.int (-2)]) (q0 := 0) C hE hW (c_Ai_refuse l G aA aA_images aA_kept aA_refused aA_heardBy aN A_draft A_sound A_reader A_refused (-2) hc3) cv_Ai_refuse tw308 hl rfl rfl (Nat.le_of_ble_eq_true rfl) rfl rfl rfl ⟨Nat.le_of_ble_eq_true rfl, Nat.le_of_ble_eq_true rfl⟩ ⟨Nat.zero_le _, Nat.zero_le _⟩ [0, 1] [2, 3, 4, 5, 6] [5, 6, 0, 1, 2, 3, 4] rfl rfl rfl (by decide) rfl rfl rfl rfl d_Ai_maker_28 (fun H locs hW => ?_)
    obtain rfl := Option.some.inj h
    exact x_iret C hW rfl rfl hQ d_Ai_maker_31
  · intro J25 hJ25 h
    refine lv_if_lt (tgt := 25) C.1.1 C.1.2.1 d_Ai_maker_1 (by decide) (fun cc => ?_) (fun cc => ?_)
    · replace h := it_t cc h
      exact hJ25 _ h _ _ _ hW (lv_sub hl [0] rfl)
    · replace h := it_f cc h
      refine lv_iload_n C.1.1 C.1.2.1 d_Ai_maker_4 rfl (lv_at hl 1 rfl) ?_
      refine lv_bipush (v := 6) C.1.1 C.1.2.1 d_Ai_maker_5 (by decide) ?_
      refine lv_icmp_ge (tgt := 25) C.1.1 C.1.2.1 d_Ai_maker_7 (by decide) (fun cc => ?_) (fun cc => ?_)
      · replace h := it_t cc h
        exact hJ25 _ h _ _ _ hW (lv_sub hl [0] rfl)
      · replace h := it_f cc h
        refine lv_aload_n C.1.1 C.1.2.1 d_Ai_maker_10 rfl (lv_at hl 0 rfl) ?_
        refine lv_iload_n C.1.1 C.1.2.1 d_Ai_maker_11 rfl (lv_at hl 2 rfl) ?_
        obtain ⟨x4, hc5, h⟩ := bd_at h
        refine x_callV (ws' := [(aA, .inr (3, [.ref aN, .ref A_draft, .ref aA_images, .ref aA_kept, .ref A_sound, .ref A_reader, .ref aA_refused, .ref aA_heardBy])), (aA_refused, .inl (gI G, 3, .inl A_refused)), (aN, .inr (0, [.int N_width, .int N_height, .long N_everywhere, .long N_firstColumn, .long N_lastColumn, .ref aN_grounds, .ref aN_airs, .ref aN_tolds, .ref aN_fees, .ref aN_lets, .int N_makers, .ref aN_kinds, .ref aN_cells, .ref aN_selves, .ref aN_cries, .int N_leaves, .ref aN_parts, .int N_pasts, .ref aN_past])), (aN_kinds, .inl (gI G, 6, .inl N_kinds)), (aN_cells, .inl (gI G, 6, .inl N_cells)), (aN_selves, .inl (gI G, 6, .inl N_selves)), (aN_cries, .inl (gI G, 6, .inl N_cries))]) (stk := [.int x4]) (rest := []) (As := [.int p2]) (q0 := 0) C hE hW (c_Ai_isCell l G aA aA_images aA_kept aA_refused aA_heardBy aN aN_grounds aN_airs aN_tolds aN_fees aN_lets aN_kinds aN_cells aN_selves aN_cries aN_parts aN_past A_draft A_sound A_reader N_width N_height N_everywhere N_firstColumn N_lastColumn N_makers N_leaves N_pasts p2 hc5) cv_Ai_isCell tw321 hl rfl rfl (Nat.le_of_ble_eq_true rfl) rfl rfl rfl ⟨Nat.le_of_ble_eq_true rfl, Nat.le_of_ble_eq_true rfl⟩ ⟨Nat.zero_le _, Nat.zero_le _⟩ [0, 2] [1, 3, 4, 5, 6] [5, 0, 6, 1, 2, 3, 4] rfl rfl rfl (by decide) rfl rfl rfl rfl d_Ai_maker_12 (fun H locs hW => ?_)
        refine lv_if_eq (tgt := 25) C.1.1 C.1.2.1 d_Ai_maker_15 (by decide) (fun cc => ?_) (fun cc => ?_)
        · replace h := it_t cc h
          exact hJ25 _ h _ _ _ hW (lv_sub hl [0] rfl)
        · replace h := it_f cc h
          refine lv_iload_n C.1.1 C.1.2.1 d_Ai_maker_18 rfl (lv_at hl 3 rfl) ?_
          obtain ⟨x6, hc7, h⟩ := bd_at h
          refine x_callS (ws' := [(aA, .inr (3, [.ref aN, .ref A_draft, .ref aA_images, .ref aA_kept, .ref A_sound, .ref A_reader, .ref aA_refused, .ref aA_heardBy])), (aA_refused, .inl (gI G, 3, .inl A_refused)), (aN, .inr (0, [.int N_width, .int N_height, .long N_everywhere, .long N_firstColumn, .long N_lastColumn, .ref aN_grounds, .ref aN_airs, .ref aN_tolds, .ref aN_fees, .ref aN_lets, .int N_makers, .ref aN_kinds, .ref aN_cells, .ref aN_selves, .ref aN_cries, .int N_leaves, .ref aN_parts, .int N_pasts, .ref aN_past])), (aN_kinds, .inl (gI G, 6, .inl N_kinds)), (aN_cells, .inl (gI G, 6, .inl N_cells)), (aN_selves, .inl (gI G, 6, .inl N_selves)), (aN_cries, .inl (gI G, 6, .inl N_cries))]) (stk := [.int x6]) (rest := []) (As := [.int p3]) C hE hW (c_Ai_isOwner l G p3 hc7) cv_Ai_isOwner tw339 hl rfl rfl (Nat.le_of_ble_eq_true rfl) ⟨Nat.le_of_ble_eq_true rfl, Nat.le_of_ble_eq_true rfl⟩ ⟨Nat.zero_le _, Nat.zero_le _⟩ [] [0, 1, 2, 3, 4, 5, 6] [0, 1, 2, 3, 4, 5, 6] rfl rfl rfl (by decide) rfl rfl rfl rfl d_Ai_maker_19 (fun H locs hW => ?_)
          refine lv_if_ne (tgt := 32) C.1.1 C.1.2.1 d_Ai_maker_22 (by decide) (fun cc => ?_) (fun cc => ?_)
          · replace h := it_f cc h
            refine lv_aload_n C.1.1 C.1.2.1 d_Ai_maker_32 rfl (lv_at hl 0 rfl) ?_
            refine x_get C hE hW fl_Ai_12 0 rfl rfl d_Ai_maker_33 ?_
            refine x_get C hE hW fl_Ai_80 2 rfl rfl d_Ai_maker_36 ?_
            refine lv_bipush (v := 6) C.1.1 C.1.2.1 d_Ai_maker_39 (by decide) ?_
            refine lv_icmp_lt (tgt := 51) C.1.1 C.1.2.1 d_Ai_maker_41 (by decide) (fun cc => ?_) (fun cc => ?_)
            · replace h := it_t cc h
              refine lv_aload_n C.1.1 C.1.2.1 d_Ai_maker_51 rfl (lv_at hl 0 rfl) ?_
              refine x_get C hE hW fl_Ai_12 0 rfl rfl d_Ai_maker_52 ?_
              refine lv_iload_n C.1.1 C.1.2.1 d_Ai_maker_55 rfl (lv_at hl 1 rfl) ?_
              refine lv_iload_n C.1.1 C.1.2.1 d_Ai_maker_56 rfl (lv_at hl 2 rfl) ?_
              refine lv_iload_n C.1.1 C.1.2.1 d_Ai_maker_57 rfl (lv_at hl 3 rfl) ?_
              obtain ⟨⟨x8, x9, x10, x11, x12⟩, hc13, h⟩ := bd_at h
              refine x_callV (ws' := [(aA, .inr (3, [.ref aN, .ref A_draft, .ref aA_images, .ref aA_kept, .ref A_sound, .ref A_reader, .ref aA_refused, .ref aA_heardBy])), (aA_refused, .inl (gI G, 3, .inl A_refused)), (aN, .inr (0, [.int N_width, .int N_height, .long N_everywhere, .long N_firstColumn, .long N_lastColumn, .ref aN_grounds, .ref aN_airs, .ref aN_tolds, .ref aN_fees, .ref aN_lets, .int x8, .ref aN_kinds, .ref aN_cells, .ref aN_selves, .ref aN_cries, .int N_leaves, .ref aN_parts, .int N_pasts, .ref aN_past])), (aN_kinds, .inl (gI G, 6, .inl x9)), (aN_cells, .inl (gI G, 6, .inl x10)), (aN_selves, .inl (gI G, 6, .inl x11)), (aN_cries, .inl (gI G, 6, .inl x12))]) (stk := []) (rest := []) (As := [.int p1, .int p2, .int p3]) (q0 := 2) C hE hW (c_Ld_addMaker l G aN aN_grounds aN_airs aN_tolds aN_fees aN_lets aN_kinds aN_cells aN_selves aN_cries aN_parts aN_past N_width N_height N_everywhere N_firstColumn N_lastColumn N_makers N_leaves N_pasts N_kinds N_cells N_selves N_cries p1 p2 p3 hc13) cv_Ld_addMaker tw350 hl rfl rfl (Nat.le_of_ble_eq_true rfl) rfl rfl rfl ⟨Nat.le_of_ble_eq_true rfl, Nat.le_of_ble_eq_true rfl⟩ ⟨Nat.zero_le _, Nat.zero_le _⟩ [2, 3, 4, 5, 6] [0, 1] [0, 1, 2, 3, 4, 5, 6] rfl rfl rfl (by decide) rfl rfl rfl rfl d_Ai_maker_58 (fun H locs hW => ?_)
              refine lv_aload_n C.1.1 C.1.2.1 d_Ai_maker_61 rfl (lv_at hl 0 rfl) ?_
              refine x_get C hE hW fl_Ai_12 0 rfl rfl d_Ai_maker_62 ?_
              refine x_get C hE hW fl_Ai_80 2 rfl rfl d_Ai_maker_65 ?_
              refine lv_iconst (v := 1) C.1.1 C.1.2.1 d_Ai_maker_68 (by decide) ?_
              refine lv_isub C.1.1 C.1.2.1 d_Ai_maker_69 ?_
              obtain rfl := Option.some.inj h
              exact x_iret C hW rfl rfl hQ d_Ai_maker_70
            · replace h := it_f cc h
              refine lv_aload_n C.1.1 C.1.2.1 d_Ai_maker_44 rfl (lv_at hl 0 rfl) ?_
              refine lv_bipush (v := (-4)) C.1.1 C.1.2.1 d_Ai_maker_45 (by decide) ?_
              obtain ⟨⟨x14, x15⟩, hc16, h⟩ := bd_at h
              refine x_callV (ws' := [(aA, .inr (3, [.ref aN, .ref A_draft, .ref aA_images, .ref aA_kept, .ref A_sound, .ref A_reader, .ref aA_refused, .ref aA_heardBy])), (aA_refused, .inl (gI G, 3, .inl x15)), (aN, .inr (0, [.int N_width, .int N_height, .long N_everywhere, .long N_firstColumn, .long N_lastColumn, .ref aN_grounds, .ref aN_airs, .ref aN_tolds, .ref aN_fees, .ref aN_lets, .int N_makers, .ref aN_kinds, .ref aN_cells, .ref aN_selves, .ref aN_cries, .int N_leaves, .ref aN_parts, .int N_pasts, .ref aN_past])), (aN_kinds, .inl (gI G, 6, .inl N_kinds)), (aN_cells, .inl (gI G, 6, .inl N_cells)), (aN_selves, .inl (gI G, 6, .inl N_selves)), (aN_cries, .inl (gI G, 6, .inl N_cries))]) (stk := [.int x14]) (rest := []) (As := [.int (-4)]) (q0 := 0) C hE hW (c_Ai_refuse l G aA aA_images aA_kept aA_refused aA_heardBy aN A_draft A_sound A_reader A_refused (-4) hc16) cv_Ai_refuse tw308 hl rfl rfl (Nat.le_of_ble_eq_true rfl) rfl rfl rfl ⟨Nat.le_of_ble_eq_true rfl, Nat.le_of_ble_eq_true rfl⟩ ⟨Nat.zero_le _, Nat.zero_le _⟩ [0, 1] [2, 3, 4, 5, 6] [5, 6, 0, 1, 2, 3, 4] rfl rfl rfl (by decide) rfl rfl rfl rfl d_Ai_maker_47 (fun H locs hW => ?_)
              obtain rfl := Option.some.inj h
              exact x_iret C hW rfl rfl hQ d_Ai_maker_50
          · replace h := it_t cc h
            exact hJ25 _ h _ _ _ hW (lv_sub hl [0] rfl)
set_option maxHeartbeats 4000000 in
set_option maxRecDepth 100000 in
theorem c_Ai_isMaker (l : Launch) (G : Gl) (aA : Nat) (aA_images : Nat) (aA_kept : Nat) (aA_refused : Nat) (aA_heardBy : Nat) (aN : Nat) (aN_grounds : Nat) (aN_airs : Nat) (aN_tolds : Nat) (aN_fees : Nat) (aN_lets : Nat) (aN_kinds : Nat) (aN_cells : Nat) (aN_selves : Nat) (aN_cries : Nat) (aN_parts : Nat) (aN_past : Nat) (A_draft : Nat) (A_sound : Nat) (A_reader : Nat) (N_width : Int32) (N_height : Int32) (N_everywhere : Int64) (N_firstColumn : Int64) (N_lastColumn : Int64) (N_makers : Int32) (N_leaves : Int32) (N_pasts : Int32) (p1 : Int32) {res : Int32} (h : f_Ai_isMaker N_makers p1 = some res) : Ct l y_Ai_isMaker b_Ai_isMaker 2 (some .boolean) 0 0 G [.ref aA, .int p1] [(aA, .inr (3, [.ref aN, .ref A_draft, .ref aA_images, .ref aA_kept, .ref A_sound, .ref A_reader, .ref aA_refused, .ref aA_heardBy])), (aN, .inr (0, [.int N_width, .int N_height, .long N_everywhere, .long N_firstColumn, .long N_lastColumn, .ref aN_grounds, .ref aN_airs, .ref aN_tolds, .ref aN_fees, .ref aN_lets, .int N_makers, .ref aN_kinds, .ref aN_cells, .ref aN_selves, .ref aN_cries, .int N_leaves, .ref aN_parts, .int N_pasts, .ref aN_past]))] (some (.int res)) [(aA, .inr (3, [.ref aN, .ref A_draft, .ref aA_images, .ref aA_kept, .ref A_sound, .ref A_reader, .ref aA_refused, .ref aA_heardBy])), (aN, .inr (0, [.int N_width, .int N_height, .long N_everywhere, .long N_firstColumn, .long N_lastColumn, .ref aN_grounds, .ref aN_airs, .ref aN_tolds, .ref aN_fees, .ref aN_lets, .int N_makers, .ref aN_kinds, .ref aN_cells, .ref aN_selves, .ref aN_cries, .int N_leaves, .ref aN_parts, .int N_pasts, .ref aN_past]))] := by
  refine Ct.mk (by decide) (Nat.le_of_ble_eq_true rfl) ?_
  intro p e s m args below meth c ls A Q C hE hW hl hQ
  have C : Cx p s args m c meth "LentAir" y_Ai_isMaker b_Ai_isMaker 2 (some .boolean) := C
  have hl : lv_has ls 2 [(0, .ref aA), (1, .int p1)] := hl
  unfold f_Ai_isMaker at h
  refine lv_iload_n C.1.1 C.1.2.1 d_Ai_isMaker_0 rfl (lv_at hl 1 rfl) ?_
  refine lv_if_lt (tgt := 19) C.1.1 C.1.2.1 d_Ai_isMaker_1 (by decide) (fun cc => ?_) (fun cc => ?_)
  · replace h := it_t cc h
    refine lv_iconst (v := 0) C.1.1 C.1.2.1 d_Ai_isMaker_19 (by decide) ?_
    obtain rfl := Option.some.inj h
    exact x_zret C hW rfl rfl rfl hQ d_Ai_isMaker_20
  · replace h := it_f cc h
    refine lv_iload_n C.1.1 C.1.2.1 d_Ai_isMaker_4 rfl (lv_at hl 1 rfl) ?_
    refine lv_aload_n C.1.1 C.1.2.1 d_Ai_isMaker_5 rfl (lv_at hl 0 rfl) ?_
    refine x_get C hE hW fl_Ai_12 0 rfl rfl d_Ai_isMaker_6 ?_
    refine x_get C hE hW fl_Ai_80 1 rfl rfl d_Ai_isMaker_9 ?_
    refine lv_icmp_ge (tgt := 19) C.1.1 C.1.2.1 d_Ai_isMaker_12 (by decide) (fun cc => ?_) (fun cc => ?_)
    · replace h := it_t cc h
      refine lv_iconst (v := 0) C.1.1 C.1.2.1 d_Ai_isMaker_19 (by decide) ?_
      obtain rfl := Option.some.inj h
      exact x_zret C hW rfl rfl rfl hQ d_Ai_isMaker_20
    · replace h := it_f cc h
      refine lv_iconst (v := 1) C.1.1 C.1.2.1 d_Ai_isMaker_15 (by decide) ?_
      refine lv_goto (tgt := 20) C.1.1 C.1.2.1 d_Ai_isMaker_16 (by decide) ?_
      obtain rfl := Option.some.inj h
      exact x_zret C hW rfl rfl rfl hQ d_Ai_isMaker_20
set_option maxHeartbeats 4000000 in
set_option maxRecDepth 100000 in
theorem c_Ai_isHour (l : Launch) (G : Gl) (p1 : Int32) {res : Int32} (h : f_Ai_isHour p1 = some res) : Ct l y_Ai_isHour b_Ai_isHour 1 (some .boolean) 0 0 G [.int p1] [] (some (.int res)) [] := by
  refine Ct.mk (by decide) (Nat.le_of_ble_eq_true rfl) ?_
  intro p e s m args below meth c ls A Q C hE hW hl hQ
  have C : Cx p s args m c meth "LentAir" y_Ai_isHour b_Ai_isHour 1 (some .boolean) := C
  have hl : lv_has ls 1 [(0, .int p1)] := hl
  unfold f_Ai_isHour at h
  refine lv_iload_n C.1.1 C.1.2.1 d_Ai_isHour_0 rfl (lv_at hl 0 rfl) ?_
  refine lv_if_lt (tgt := 14) C.1.1 C.1.2.1 d_Ai_isHour_1 (by decide) (fun cc => ?_) (fun cc => ?_)
  · replace h := it_t cc h
    refine lv_iconst (v := 0) C.1.1 C.1.2.1 d_Ai_isHour_14 (by decide) ?_
    obtain rfl := Option.some.inj h
    exact x_zret C hW rfl rfl rfl hQ d_Ai_isHour_15
  · replace h := it_f cc h
    refine lv_iload_n C.1.1 C.1.2.1 d_Ai_isHour_4 rfl (lv_at hl 0 rfl) ?_
    refine lv_bipush (v := 23) C.1.1 C.1.2.1 d_Ai_isHour_5 (by decide) ?_
    refine lv_icmp_gt (tgt := 14) C.1.1 C.1.2.1 d_Ai_isHour_7 (by decide) (fun cc => ?_) (fun cc => ?_)
    · replace h := it_t cc h
      refine lv_iconst (v := 0) C.1.1 C.1.2.1 d_Ai_isHour_14 (by decide) ?_
      obtain rfl := Option.some.inj h
      exact x_zret C hW rfl rfl rfl hQ d_Ai_isHour_15
    · replace h := it_f cc h
      refine lv_iconst (v := 1) C.1.1 C.1.2.1 d_Ai_isHour_10 (by decide) ?_
      refine lv_goto (tgt := 15) C.1.1 C.1.2.1 d_Ai_isHour_11 (by decide) ?_
      obtain rfl := Option.some.inj h
      exact x_zret C hW rfl rfl rfl hQ d_Ai_isHour_15
set_option maxHeartbeats 4000000 in
set_option maxRecDepth 100000 in
theorem c_Ai_isLoud (l : Launch) (G : Gl) (p1 : Int32) {res : Int32} (h : f_Ai_isLoud p1 = some res) : Ct l y_Ai_isLoud b_Ai_isLoud 1 (some .boolean) 0 0 G [.int p1] [] (some (.int res)) [] := by
  refine Ct.mk (by decide) (Nat.le_of_ble_eq_true rfl) ?_
  intro p e s m args below meth c ls A Q C hE hW hl hQ
  have C : Cx p s args m c meth "LentAir" y_Ai_isLoud b_Ai_isLoud 1 (some .boolean) := C
  have hl : lv_has ls 1 [(0, .int p1)] := hl
  unfold f_Ai_isLoud at h
  refine lv_iload_n C.1.1 C.1.2.1 d_Ai_isLoud_0 rfl (lv_at hl 0 rfl) ?_
  refine lv_iconst (v := 1) C.1.1 C.1.2.1 d_Ai_isLoud_1 (by decide) ?_
  refine lv_icmp_lt (tgt := 15) C.1.1 C.1.2.1 d_Ai_isLoud_2 (by decide) (fun cc => ?_) (fun cc => ?_)
  · replace h := it_t cc h
    refine lv_iconst (v := 0) C.1.1 C.1.2.1 d_Ai_isLoud_15 (by decide) ?_
    obtain rfl := Option.some.inj h
    exact x_zret C hW rfl rfl rfl hQ d_Ai_isLoud_16
  · replace h := it_f cc h
    refine lv_iload_n C.1.1 C.1.2.1 d_Ai_isLoud_5 rfl (lv_at hl 0 rfl) ?_
    refine lv_bipush (v := 20) C.1.1 C.1.2.1 d_Ai_isLoud_6 (by decide) ?_
    refine lv_icmp_gt (tgt := 15) C.1.1 C.1.2.1 d_Ai_isLoud_8 (by decide) (fun cc => ?_) (fun cc => ?_)
    · replace h := it_t cc h
      refine lv_iconst (v := 0) C.1.1 C.1.2.1 d_Ai_isLoud_15 (by decide) ?_
      obtain rfl := Option.some.inj h
      exact x_zret C hW rfl rfl rfl hQ d_Ai_isLoud_16
    · replace h := it_f cc h
      refine lv_iconst (v := 1) C.1.1 C.1.2.1 d_Ai_isLoud_11 (by decide) ?_
      refine lv_goto (tgt := 16) C.1.1 C.1.2.1 d_Ai_isLoud_12 (by decide) ?_
      obtain rfl := Option.some.inj h
      exact x_zret C hW rfl rfl rfl hQ d_Ai_isLoud_16
set_option maxHeartbeats 4000000 in
set_option maxRecDepth 100000 in
theorem c_Ai_leave (l : Launch) (G : Gl) (aA : Nat) (aA_images : Nat) (aA_kept : Nat) (aA_refused : Nat) (aA_heardBy : Nat) (aN : Nat) (aN_grounds : Nat) (aN_airs : Nat) (aN_tolds : Nat) (aN_fees : Nat) (aN_lets : Nat) (aN_kinds : Nat) (aN_cells : Nat) (aN_selves : Nat) (aN_cries : Nat) (aN_parts : Nat) (aN_past : Nat) (A_draft : Nat) (A_sound : Nat) (A_reader : Nat) (N_width : Int32) (N_height : Int32) (N_everywhere : Int64) (N_firstColumn : Int64) (N_lastColumn : Int64) (N_makers : Int32) (N_leaves : Int32) (N_pasts : Int32) (A_refused : Nat → Int32) (N_parts : Nat → Int32) (N_past : Nat → Int32) (p1 : Int32) (p2 : Int32) (p3 : Int32) (p4 : Int32) (p5 : Int32) {res : Int32 × (Nat → Int32) × Int32 × (Nat → Int32) × Int32 × (Nat → Int32)} (h : f_Ai_leave N_makers N_leaves N_pasts A_refused N_parts N_past p1 p2 p3 p4 p5 = some res) : Ct l y_Ai_leave b_Ai_leave 6 (some .int) 2 61 G [.ref aA, .int p1, .int p2, .int p3, .int p4, .int p5] [(aA, .inr (3, [.ref aN, .ref A_draft, .ref aA_images, .ref aA_kept, .ref A_sound, .ref A_reader, .ref aA_refused, .ref aA_heardBy])), (aA_refused, .inl (gI G, 3, .inl A_refused)), (aN, .inr (0, [.int N_width, .int N_height, .long N_everywhere, .long N_firstColumn, .long N_lastColumn, .ref aN_grounds, .ref aN_airs, .ref aN_tolds, .ref aN_fees, .ref aN_lets, .int N_makers, .ref aN_kinds, .ref aN_cells, .ref aN_selves, .ref aN_cries, .int N_leaves, .ref aN_parts, .int N_pasts, .ref aN_past])), (aN_parts, .inl (gI G, 40, .inl N_parts)), (aN_past, .inl (gI G, 328, .inl N_past))] (some (.int res.1)) [(aA, .inr (3, [.ref aN, .ref A_draft, .ref aA_images, .ref aA_kept, .ref A_sound, .ref A_reader, .ref aA_refused, .ref aA_heardBy])), (aA_refused, .inl (gI G, 3, .inl (res.2.1))), (aN, .inr (0, [.int N_width, .int N_height, .long N_everywhere, .long N_firstColumn, .long N_lastColumn, .ref aN_grounds, .ref aN_airs, .ref aN_tolds, .ref aN_fees, .ref aN_lets, .int N_makers, .ref aN_kinds, .ref aN_cells, .ref aN_selves, .ref aN_cries, .int (res.2.2.1), .ref aN_parts, .int (res.2.2.2.2.1), .ref aN_past])), (aN_parts, .inl (gI G, 40, .inl (res.2.2.2.1))), (aN_past, .inl (gI G, 328, .inl (res.2.2.2.2.2)))] := by
  refine Ct.mk (by decide) (Nat.le_of_ble_eq_true rfl) ?_
  intro p e s m args below meth c ls A Q C hE hW hl hQ
  have C : Cx p s args m c meth "LentAir" y_Ai_leave b_Ai_leave 6 (some .int) := C
  have hl : lv_has ls 6 [(0, .ref aA), (1, .int p1), (2, .int p2), (3, .int p3), (4, .int p4), (5, .int p5)] := hl
  unfold f_Ai_leave at h
  refine lv_aload_n C.1.1 C.1.2.1 d_Ai_leave_0 rfl (lv_at hl 0 rfl) ?_
  refine lv_iload_n C.1.1 C.1.2.1 d_Ai_leave_1 rfl (lv_at hl 1 rfl) ?_
  obtain ⟨x1, hc2, h⟩ := bd_at h
  refine x_callV (ws' := [(aA, .inr (3, [.ref aN, .ref A_draft, .ref aA_images, .ref aA_kept, .ref A_sound, .ref A_reader, .ref aA_refused, .ref aA_heardBy])), (aA_refused, .inl (gI G, 3, .inl A_refused)), (aN, .inr (0, [.int N_width, .int N_height, .long N_everywhere, .long N_firstColumn, .long N_lastColumn, .ref aN_grounds, .ref aN_airs, .ref aN_tolds, .ref aN_fees, .ref aN_lets, .int N_makers, .ref aN_kinds, .ref aN_cells, .ref aN_selves, .ref aN_cries, .int N_leaves, .ref aN_parts, .int N_pasts, .ref aN_past])), (aN_parts, .inl (gI G, 40, .inl N_parts)), (aN_past, .inl (gI G, 328, .inl N_past))]) (stk := [.int x1]) (rest := []) (As := [.int p1]) (q0 := 0) C hE hW (c_Ai_isMaker l G aA aA_images aA_kept aA_refused aA_heardBy aN aN_grounds aN_airs aN_tolds aN_fees aN_lets aN_kinds aN_cells aN_selves aN_cries aN_parts aN_past A_draft A_sound A_reader N_width N_height N_everywhere N_firstColumn N_lastColumn N_makers N_leaves N_pasts p1 hc2) cv_Ai_isMaker tw358 hl rfl rfl (Nat.le_of_ble_eq_true rfl) rfl rfl rfl ⟨Nat.le_of_ble_eq_true rfl, Nat.le_of_ble_eq_true rfl⟩ ⟨Nat.zero_le _, Nat.zero_le _⟩ [0, 2] [1, 3, 4] [3, 0, 4, 1, 2] rfl rfl rfl (by decide) rfl rfl rfl rfl d_Ai_leave_2 (fun H locs hW => ?_)
  refine jn_at (P := fun (_ : Unit) => ∀ (H : Heap) (locs : List Loc) (ls : Array Slot), Wd G A s.heap H locs [(aA, .inr (3, [.ref aN, .ref A_draft, .ref aA_images, .ref aA_kept, .ref A_sound, .ref A_reader, .ref aA_refused, .ref aA_heardBy])), (aA_refused, .inl (gI G, 3, .inl A_refused)), (aN, .inr (0, [.int N_width, .int N_height, .long N_everywhere, .long N_firstColumn, .long N_lastColumn, .ref aN_grounds, .ref aN_airs, .ref aN_tolds, .ref aN_fees, .ref aN_lets, .int N_makers, .ref aN_kinds, .ref aN_cells, .ref aN_selves, .ref aN_cries, .int N_leaves, .ref aN_parts, .int N_pasts, .ref aN_past])), (aN_parts, .inl (gI G, 40, .inl N_parts)), (aN_past, .inl (gI G, 328, .inl N_past))] → lv_has ls 6 [(0, .ref aA)] → W p l e (RM 2 61) s m args below meth c H locs 0 0 Q (F0 m 44 ls [])) h ?_ ?_
  · skip
    intro _ h
    intro H locs ls hW hl
    refine lv_aload_n C.1.1 C.1.2.1 d_Ai_leave_44 rfl (lv_at hl 0 rfl) ?_
    refine lv_bipush (v := (-2)) C.1.1 C.1.2.1 d_Ai_leave_45 (by decide) ?_
    obtain ⟨⟨x3, x4⟩, hc5, h⟩ := bd_at h
    refine x_callV (ws' := [(aA, .inr (3, [.ref aN, .ref A_draft, .ref aA_images, .ref aA_kept, .ref A_sound, .ref A_reader, .ref aA_refused, .ref aA_heardBy])), (aA_refused, .inl (gI G, 3, .inl x4)), (aN, .inr (0, [.int N_width, .int N_height, .long N_everywhere, .long N_firstColumn, .long N_lastColumn, .ref aN_grounds, .ref aN_airs, .ref aN_tolds, .ref aN_fees, .ref aN_lets, .int N_makers, .ref aN_kinds, .ref aN_cells, .ref aN_selves, .ref aN_cries, .int N_leaves, .ref aN_parts, .int N_pasts, .ref aN_past])), (aN_parts, .inl (gI G, 40, .inl N_parts)), (aN_past, .inl (gI G, 328, .inl N_past))]) (stk := [.int x3]) (rest := []) (As := [.int (-2)]) (q0 := 0) C hE hW (c_Ai_refuse l G aA aA_images aA_kept aA_refused aA_heardBy aN A_draft A_sound A_reader A_refused (-2) hc5) cv_Ai_refuse tw308 hl rfl rfl (Nat.le_of_ble_eq_true rfl) rfl rfl rfl ⟨Nat.le_of_ble_eq_true rfl, Nat.le_of_ble_eq_true rfl⟩ ⟨Nat.zero_le _, Nat.zero_le _⟩ [0, 1] [2, 3, 4] [3, 4, 0, 1, 2] rfl rfl rfl (by decide) rfl rfl rfl rfl d_Ai_leave_47 (fun H locs hW => ?_)
    obtain rfl := Option.some.inj h
    exact x_iret C hW rfl rfl hQ d_Ai_leave_50
  · intro J44 hJ44 h
    refine lv_if_eq (tgt := 44) C.1.1 C.1.2.1 d_Ai_leave_5 (by decide) (fun cc => ?_) (fun cc => ?_)
    · replace h := it_t cc h
      exact hJ44 _ h _ _ _ hW (lv_sub hl [0] rfl)
    · replace h := it_f cc h
      refine lv_iload_n C.1.1 C.1.2.1 d_Ai_leave_8 rfl (lv_at hl 2 rfl) ?_
      obtain ⟨x6, hc7, h⟩ := bd_at h
      refine x_callS (ws' := [(aA, .inr (3, [.ref aN, .ref A_draft, .ref aA_images, .ref aA_kept, .ref A_sound, .ref A_reader, .ref aA_refused, .ref aA_heardBy])), (aA_refused, .inl (gI G, 3, .inl A_refused)), (aN, .inr (0, [.int N_width, .int N_height, .long N_everywhere, .long N_firstColumn, .long N_lastColumn, .ref aN_grounds, .ref aN_airs, .ref aN_tolds, .ref aN_fees, .ref aN_lets, .int N_makers, .ref aN_kinds, .ref aN_cells, .ref aN_selves, .ref aN_cries, .int N_leaves, .ref aN_parts, .int N_pasts, .ref aN_past])), (aN_parts, .inl (gI G, 40, .inl N_parts)), (aN_past, .inl (gI G, 328, .inl N_past))]) (stk := [.int x6]) (rest := []) (As := [.int p2]) C hE hW (c_Ai_isOwner l G p2 hc7) cv_Ai_isOwner tw339 hl rfl rfl (Nat.le_of_ble_eq_true rfl) ⟨Nat.le_of_ble_eq_true rfl, Nat.le_of_ble_eq_true rfl⟩ ⟨Nat.zero_le _, Nat.zero_le _⟩ [] [0, 1, 2, 3, 4] [0, 1, 2, 3, 4] rfl rfl rfl (by decide) rfl rfl rfl rfl d_Ai_leave_9 (fun H locs hW => ?_)
      refine lv_if_eq (tgt := 44) C.1.1 C.1.2.1 d_Ai_leave_12 (by decide) (fun cc => ?_) (fun cc => ?_)
      · replace h := it_t cc h
        exact hJ44 _ h _ _ _ hW (lv_sub hl [0] rfl)
      · replace h := it_f cc h
        refine lv_iload_n C.1.1 C.1.2.1 d_Ai_leave_15 rfl (lv_at hl 3 rfl) ?_
        obtain ⟨x8, hc9, h⟩ := bd_at h
        refine x_callS (ws' := [(aA, .inr (3, [.ref aN, .ref A_draft, .ref aA_images, .ref aA_kept, .ref A_sound, .ref A_reader, .ref aA_refused, .ref aA_heardBy])), (aA_refused, .inl (gI G, 3, .inl A_refused)), (aN, .inr (0, [.int N_width, .int N_height, .long N_everywhere, .long N_firstColumn, .long N_lastColumn, .ref aN_grounds, .ref aN_airs, .ref aN_tolds, .ref aN_fees, .ref aN_lets, .int N_makers, .ref aN_kinds, .ref aN_cells, .ref aN_selves, .ref aN_cries, .int N_leaves, .ref aN_parts, .int N_pasts, .ref aN_past])), (aN_parts, .inl (gI G, 40, .inl N_parts)), (aN_past, .inl (gI G, 328, .inl N_past))]) (stk := [.int x8]) (rest := []) (As := [.int p3]) C hE hW (c_Ai_isHour l G p3 hc9) cv_Ai_isHour tw362 hl rfl rfl (Nat.le_of_ble_eq_true rfl) ⟨Nat.le_of_ble_eq_true rfl, Nat.le_of_ble_eq_true rfl⟩ ⟨Nat.zero_le _, Nat.zero_le _⟩ [] [0, 1, 2, 3, 4] [0, 1, 2, 3, 4] rfl rfl rfl (by decide) rfl rfl rfl rfl d_Ai_leave_16 (fun H locs hW => ?_)
        refine lv_if_eq (tgt := 44) C.1.1 C.1.2.1 d_Ai_leave_19 (by decide) (fun cc => ?_) (fun cc => ?_)
        · replace h := it_t cc h
          exact hJ44 _ h _ _ _ hW (lv_sub hl [0] rfl)
        · replace h := it_f cc h
          refine lv_iload C.1.1 C.1.2.1 d_Ai_leave_22 (lv_at hl 4 rfl) ?_
          obtain ⟨x10, hc11, h⟩ := bd_at h
          refine x_callS (ws' := [(aA, .inr (3, [.ref aN, .ref A_draft, .ref aA_images, .ref aA_kept, .ref A_sound, .ref A_reader, .ref aA_refused, .ref aA_heardBy])), (aA_refused, .inl (gI G, 3, .inl A_refused)), (aN, .inr (0, [.int N_width, .int N_height, .long N_everywhere, .long N_firstColumn, .long N_lastColumn, .ref aN_grounds, .ref aN_airs, .ref aN_tolds, .ref aN_fees, .ref aN_lets, .int N_makers, .ref aN_kinds, .ref aN_cells, .ref aN_selves, .ref aN_cries, .int N_leaves, .ref aN_parts, .int N_pasts, .ref aN_past])), (aN_parts, .inl (gI G, 40, .inl N_parts)), (aN_past, .inl (gI G, 328, .inl N_past))]) (stk := [.int x10]) (rest := []) (As := [.int p4]) C hE hW (c_Ai_isHour l G p4 hc11) cv_Ai_isHour tw362 hl rfl rfl (Nat.le_of_ble_eq_true rfl) ⟨Nat.le_of_ble_eq_true rfl, Nat.le_of_ble_eq_true rfl⟩ ⟨Nat.zero_le _, Nat.zero_le _⟩ [] [0, 1, 2, 3, 4] [0, 1, 2, 3, 4] rfl rfl rfl (by decide) rfl rfl rfl rfl d_Ai_leave_24 (fun H locs hW => ?_)
          refine lv_if_eq (tgt := 44) C.1.1 C.1.2.1 d_Ai_leave_27 (by decide) (fun cc => ?_) (fun cc => ?_)
          · replace h := it_t cc h
            exact hJ44 _ h _ _ _ hW (lv_sub hl [0] rfl)
          · replace h := it_f cc h
            refine lv_iload_n C.1.1 C.1.2.1 d_Ai_leave_30 rfl (lv_at hl 3 rfl) ?_
            refine lv_iload C.1.1 C.1.2.1 d_Ai_leave_31 (lv_at hl 4 rfl) ?_
            refine lv_icmp_gt (tgt := 44) C.1.1 C.1.2.1 d_Ai_leave_33 (by decide) (fun cc => ?_) (fun cc => ?_)
            · replace h := it_t cc h
              exact hJ44 _ h _ _ _ hW (lv_sub hl [0] rfl)
            · replace h := it_f cc h
              refine lv_iload C.1.1 C.1.2.1 d_Ai_leave_36 (lv_at hl 5 rfl) ?_
              obtain ⟨x12, hc13, h⟩ := bd_at h
              refine x_callS (ws' := [(aA, .inr (3, [.ref aN, .ref A_draft, .ref aA_images, .ref aA_kept, .ref A_sound, .ref A_reader, .ref aA_refused, .ref aA_heardBy])), (aA_refused, .inl (gI G, 3, .inl A_refused)), (aN, .inr (0, [.int N_width, .int N_height, .long N_everywhere, .long N_firstColumn, .long N_lastColumn, .ref aN_grounds, .ref aN_airs, .ref aN_tolds, .ref aN_fees, .ref aN_lets, .int N_makers, .ref aN_kinds, .ref aN_cells, .ref aN_selves, .ref aN_cries, .int N_leaves, .ref aN_parts, .int N_pasts, .ref aN_past])), (aN_parts, .inl (gI G, 40, .inl N_parts)), (aN_past, .inl (gI G, 328, .inl N_past))]) (stk := [.int x12]) (rest := []) (As := [.int p5]) C hE hW (c_Ai_isLoud l G p5 hc13) cv_Ai_isLoud tw365 hl rfl rfl (Nat.le_of_ble_eq_true rfl) ⟨Nat.le_of_ble_eq_true rfl, Nat.le_of_ble_eq_true rfl⟩ ⟨Nat.zero_le _, Nat.zero_le _⟩ [] [0, 1, 2, 3, 4] [0, 1, 2, 3, 4] rfl rfl rfl (by decide) rfl rfl rfl rfl d_Ai_leave_38 (fun H locs hW => ?_)
              refine lv_if_ne (tgt := 51) C.1.1 C.1.2.1 d_Ai_leave_41 (by decide) (fun cc => ?_) (fun cc => ?_)
              · replace h := it_f cc h
                refine lv_aload_n C.1.1 C.1.2.1 d_Ai_leave_51 rfl (lv_at hl 0 rfl) ?_
                refine x_get C hE hW fl_Ai_12 0 rfl rfl d_Ai_leave_52 ?_
                refine x_get C hE hW fl_Ai_97 2 rfl rfl d_Ai_leave_55 ?_
                refine lv_bipush (v := 8) C.1.1 C.1.2.1 d_Ai_leave_58 (by decide) ?_
                refine lv_icmp_lt (tgt := 70) C.1.1 C.1.2.1 d_Ai_leave_60 (by decide) (fun cc => ?_) (fun cc => ?_)
                · replace h := it_t cc h
                  refine lv_aload_n C.1.1 C.1.2.1 d_Ai_leave_70 rfl (lv_at hl 0 rfl) ?_
                  refine x_get C hE hW fl_Ai_12 0 rfl rfl d_Ai_leave_71 ?_
                  obtain ⟨⟨x14, x15⟩, hc16, h⟩ := bd_at h
                  refine x_callV (ws' := [(aA, .inr (3, [.ref aN, .ref A_draft, .ref aA_images, .ref aA_kept, .ref A_sound, .ref A_reader, .ref aA_refused, .ref aA_heardBy])), (aA_refused, .inl (gI G, 3, .inl A_refused)), (aN, .inr (0, [.int N_width, .int N_height, .long N_everywhere, .long N_firstColumn, .long N_lastColumn, .ref aN_grounds, .ref aN_airs, .ref aN_tolds, .ref aN_fees, .ref aN_lets, .int N_makers, .ref aN_kinds, .ref aN_cells, .ref aN_selves, .ref aN_cries, .int N_leaves, .ref aN_parts, .int x14, .ref aN_past])), (aN_parts, .inl (gI G, 40, .inl N_parts)), (aN_past, .inl (gI G, 328, .inl x15))]) (stk := []) (rest := []) (As := []) (q0 := 2) C hE hW (c_Ld_keepPast l G aN aN_grounds aN_airs aN_tolds aN_fees aN_lets aN_kinds aN_cells aN_selves aN_cries aN_parts aN_past N_width N_height N_everywhere N_firstColumn N_lastColumn N_makers N_leaves N_pasts N_parts N_past hc16) cv_Ld_keepPast tw368 hl rfl rfl (Nat.le_of_ble_eq_true rfl) rfl rfl rfl ⟨Nat.le_of_ble_eq_true rfl, Nat.le_of_ble_eq_true rfl⟩ ⟨Nat.zero_le _, Nat.zero_le _⟩ [2, 3, 4] [0, 1] [0, 1, 2, 3, 4] rfl rfl rfl (by decide) rfl rfl rfl rfl d_Ai_leave_74 (fun H locs hW => ?_)
                  refine lv_aload_n C.1.1 C.1.2.1 d_Ai_leave_77 rfl (lv_at hl 0 rfl) ?_
                  refine x_get C hE hW fl_Ai_12 0 rfl rfl d_Ai_leave_78 ?_
                  refine lv_iload_n C.1.1 C.1.2.1 d_Ai_leave_81 rfl (lv_at hl 1 rfl) ?_
                  refine lv_iload_n C.1.1 C.1.2.1 d_Ai_leave_82 rfl (lv_at hl 2 rfl) ?_
                  refine lv_iload_n C.1.1 C.1.2.1 d_Ai_leave_83 rfl (lv_at hl 3 rfl) ?_
                  refine lv_iload C.1.1 C.1.2.1 d_Ai_leave_84 (lv_at hl 4 rfl) ?_
                  refine lv_iload C.1.1 C.1.2.1 d_Ai_leave_86 (lv_at hl 5 rfl) ?_
                  obtain ⟨⟨x17, x18⟩, hc19, h⟩ := bd_at h
                  refine x_callV (ws' := [(aA, .inr (3, [.ref aN, .ref A_draft, .ref aA_images, .ref aA_kept, .ref A_sound, .ref A_reader, .ref aA_refused, .ref aA_heardBy])), (aA_refused, .inl (gI G, 3, .inl A_refused)), (aN, .inr (0, [.int N_width, .int N_height, .long N_everywhere, .long N_firstColumn, .long N_lastColumn, .ref aN_grounds, .ref aN_airs, .ref aN_tolds, .ref aN_fees, .ref aN_lets, .int N_makers, .ref aN_kinds, .ref aN_cells, .ref aN_selves, .ref aN_cries, .int x17, .ref aN_parts, .int x14, .ref aN_past])), (aN_parts, .inl (gI G, 40, .inl x18)), (aN_past, .inl (gI G, 328, .inl x15))]) (stk := []) (rest := []) (As := [.int p1, .int p2, .int p3, .int p4, .int p5]) (q0 := 2) C hE hW (c_Ld_addLeave l G aN aN_grounds aN_airs aN_tolds aN_fees aN_lets aN_kinds aN_cells aN_selves aN_cries aN_parts aN_past N_width N_height N_everywhere N_firstColumn N_lastColumn N_makers N_leaves x14 N_parts p1 p2 p3 p4 p5 hc19) cv_Ld_addLeave tw375 hl rfl rfl (Nat.le_of_ble_eq_true rfl) rfl rfl rfl ⟨Nat.le_of_ble_eq_true rfl, Nat.le_of_ble_eq_true rfl⟩ ⟨Nat.zero_le _, Nat.zero_le _⟩ [2, 3] [0, 1, 4] [0, 1, 3, 4, 2] rfl rfl rfl (by decide) rfl rfl rfl rfl d_Ai_leave_88 (fun H locs hW => ?_)
                  refine lv_aload_n C.1.1 C.1.2.1 d_Ai_leave_91 rfl (lv_at hl 0 rfl) ?_
                  refine x_get C hE hW fl_Ai_12 0 rfl rfl d_Ai_leave_92 ?_
                  refine x_get C hE hW fl_Ai_97 2 rfl rfl d_Ai_leave_95 ?_
                  refine lv_iconst (v := 1) C.1.1 C.1.2.1 d_Ai_leave_98 (by decide) ?_
                  refine lv_isub C.1.1 C.1.2.1 d_Ai_leave_99 ?_
                  obtain rfl := Option.some.inj h
                  exact x_iret C hW rfl rfl hQ d_Ai_leave_100
                · replace h := it_f cc h
                  refine lv_aload_n C.1.1 C.1.2.1 d_Ai_leave_63 rfl (lv_at hl 0 rfl) ?_
                  refine lv_bipush (v := (-4)) C.1.1 C.1.2.1 d_Ai_leave_64 (by decide) ?_
                  obtain ⟨⟨x20, x21⟩, hc22, h⟩ := bd_at h
                  refine x_callV (ws' := [(aA, .inr (3, [.ref aN, .ref A_draft, .ref aA_images, .ref aA_kept, .ref A_sound, .ref A_reader, .ref aA_refused, .ref aA_heardBy])), (aA_refused, .inl (gI G, 3, .inl x21)), (aN, .inr (0, [.int N_width, .int N_height, .long N_everywhere, .long N_firstColumn, .long N_lastColumn, .ref aN_grounds, .ref aN_airs, .ref aN_tolds, .ref aN_fees, .ref aN_lets, .int N_makers, .ref aN_kinds, .ref aN_cells, .ref aN_selves, .ref aN_cries, .int N_leaves, .ref aN_parts, .int N_pasts, .ref aN_past])), (aN_parts, .inl (gI G, 40, .inl N_parts)), (aN_past, .inl (gI G, 328, .inl N_past))]) (stk := [.int x20]) (rest := []) (As := [.int (-4)]) (q0 := 0) C hE hW (c_Ai_refuse l G aA aA_images aA_kept aA_refused aA_heardBy aN A_draft A_sound A_reader A_refused (-4) hc22) cv_Ai_refuse tw308 hl rfl rfl (Nat.le_of_ble_eq_true rfl) rfl rfl rfl ⟨Nat.le_of_ble_eq_true rfl, Nat.le_of_ble_eq_true rfl⟩ ⟨Nat.zero_le _, Nat.zero_le _⟩ [0, 1] [2, 3, 4] [3, 4, 0, 1, 2] rfl rfl rfl (by decide) rfl rfl rfl rfl d_Ai_leave_66 (fun H locs hW => ?_)
                  obtain rfl := Option.some.inj h
                  exact x_iret C hW rfl rfl hQ d_Ai_leave_69
              · replace h := it_t cc h
                exact hJ44 _ h _ _ _ hW (lv_sub hl [0] rfl)
set_option maxHeartbeats 4000000 in
set_option maxRecDepth 100000 in
theorem c_Ai_isLeave (l : Launch) (G : Gl) (aA : Nat) (aA_images : Nat) (aA_kept : Nat) (aA_refused : Nat) (aA_heardBy : Nat) (aN : Nat) (aN_grounds : Nat) (aN_airs : Nat) (aN_tolds : Nat) (aN_fees : Nat) (aN_lets : Nat) (aN_kinds : Nat) (aN_cells : Nat) (aN_selves : Nat) (aN_cries : Nat) (aN_parts : Nat) (aN_past : Nat) (A_draft : Nat) (A_sound : Nat) (A_reader : Nat) (N_width : Int32) (N_height : Int32) (N_everywhere : Int64) (N_firstColumn : Int64) (N_lastColumn : Int64) (N_makers : Int32) (N_leaves : Int32) (N_pasts : Int32) (p1 : Int32) {res : Int32} (h : f_Ai_isLeave N_leaves p1 = some res) : Ct l y_Ai_isLeave b_Ai_isLeave 2 (some .boolean) 0 0 G [.ref aA, .int p1] [(aA, .inr (3, [.ref aN, .ref A_draft, .ref aA_images, .ref aA_kept, .ref A_sound, .ref A_reader, .ref aA_refused, .ref aA_heardBy])), (aN, .inr (0, [.int N_width, .int N_height, .long N_everywhere, .long N_firstColumn, .long N_lastColumn, .ref aN_grounds, .ref aN_airs, .ref aN_tolds, .ref aN_fees, .ref aN_lets, .int N_makers, .ref aN_kinds, .ref aN_cells, .ref aN_selves, .ref aN_cries, .int N_leaves, .ref aN_parts, .int N_pasts, .ref aN_past]))] (some (.int res)) [(aA, .inr (3, [.ref aN, .ref A_draft, .ref aA_images, .ref aA_kept, .ref A_sound, .ref A_reader, .ref aA_refused, .ref aA_heardBy])), (aN, .inr (0, [.int N_width, .int N_height, .long N_everywhere, .long N_firstColumn, .long N_lastColumn, .ref aN_grounds, .ref aN_airs, .ref aN_tolds, .ref aN_fees, .ref aN_lets, .int N_makers, .ref aN_kinds, .ref aN_cells, .ref aN_selves, .ref aN_cries, .int N_leaves, .ref aN_parts, .int N_pasts, .ref aN_past]))] := by
  refine Ct.mk (by decide) (Nat.le_of_ble_eq_true rfl) ?_
  intro p e s m args below meth c ls A Q C hE hW hl hQ
  have C : Cx p s args m c meth "LentAir" y_Ai_isLeave b_Ai_isLeave 2 (some .boolean) := C
  have hl : lv_has ls 2 [(0, .ref aA), (1, .int p1)] := hl
  unfold f_Ai_isLeave at h
  refine lv_iload_n C.1.1 C.1.2.1 d_Ai_isLeave_0 rfl (lv_at hl 1 rfl) ?_
  refine lv_if_lt (tgt := 19) C.1.1 C.1.2.1 d_Ai_isLeave_1 (by decide) (fun cc => ?_) (fun cc => ?_)
  · replace h := it_t cc h
    refine lv_iconst (v := 0) C.1.1 C.1.2.1 d_Ai_isLeave_19 (by decide) ?_
    obtain rfl := Option.some.inj h
    exact x_zret C hW rfl rfl rfl hQ d_Ai_isLeave_20
  · replace h := it_f cc h
    refine lv_iload_n C.1.1 C.1.2.1 d_Ai_isLeave_4 rfl (lv_at hl 1 rfl) ?_
    refine lv_aload_n C.1.1 C.1.2.1 d_Ai_isLeave_5 rfl (lv_at hl 0 rfl) ?_
    refine x_get C hE hW fl_Ai_12 0 rfl rfl d_Ai_isLeave_6 ?_
    refine x_get C hE hW fl_Ai_97 1 rfl rfl d_Ai_isLeave_9 ?_
    refine lv_icmp_ge (tgt := 19) C.1.1 C.1.2.1 d_Ai_isLeave_12 (by decide) (fun cc => ?_) (fun cc => ?_)
    · replace h := it_t cc h
      refine lv_iconst (v := 0) C.1.1 C.1.2.1 d_Ai_isLeave_19 (by decide) ?_
      obtain rfl := Option.some.inj h
      exact x_zret C hW rfl rfl rfl hQ d_Ai_isLeave_20
    · replace h := it_f cc h
      refine lv_iconst (v := 1) C.1.1 C.1.2.1 d_Ai_isLeave_15 (by decide) ?_
      refine lv_goto (tgt := 20) C.1.1 C.1.2.1 d_Ai_isLeave_16 (by decide) ?_
      obtain rfl := Option.some.inj h
      exact x_zret C hW rfl rfl rfl hQ d_Ai_isLeave_20
set_option maxHeartbeats 4000000 in
set_option maxRecDepth 100000 in
theorem c_Ai_take (l : Launch) (G : Gl) (aA : Nat) (aA_images : Nat) (aA_kept : Nat) (aA_refused : Nat) (aA_heardBy : Nat) (aN : Nat) (aN_grounds : Nat) (aN_airs : Nat) (aN_tolds : Nat) (aN_fees : Nat) (aN_lets : Nat) (aN_kinds : Nat) (aN_cells : Nat) (aN_selves : Nat) (aN_cries : Nat) (aN_parts : Nat) (aN_past : Nat) (A_draft : Nat) (A_sound : Nat) (A_reader : Nat) (N_width : Int32) (N_height : Int32) (N_everywhere : Int64) (N_firstColumn : Int64) (N_lastColumn : Int64) (N_makers : Int32) (N_leaves : Int32) (N_pasts : Int32) (A_refused : Nat → Int32) (N_parts : Nat → Int32) (N_past : Nat → Int32) (p1 : Int32) {res : Int32 × (Nat → Int32) × Int32 × (Nat → Int32) × Int32 × (Nat → Int32)} (h : f_Ai_take N_leaves N_pasts A_refused N_parts N_past p1 = some res) : Ct l y_Ai_take b_Ai_take 2 (some .int) 2 61 G [.ref aA, .int p1] [(aA, .inr (3, [.ref aN, .ref A_draft, .ref aA_images, .ref aA_kept, .ref A_sound, .ref A_reader, .ref aA_refused, .ref aA_heardBy])), (aA_refused, .inl (gI G, 3, .inl A_refused)), (aN, .inr (0, [.int N_width, .int N_height, .long N_everywhere, .long N_firstColumn, .long N_lastColumn, .ref aN_grounds, .ref aN_airs, .ref aN_tolds, .ref aN_fees, .ref aN_lets, .int N_makers, .ref aN_kinds, .ref aN_cells, .ref aN_selves, .ref aN_cries, .int N_leaves, .ref aN_parts, .int N_pasts, .ref aN_past])), (aN_parts, .inl (gI G, 40, .inl N_parts)), (aN_past, .inl (gI G, 328, .inl N_past))] (some (.int res.1)) [(aA, .inr (3, [.ref aN, .ref A_draft, .ref aA_images, .ref aA_kept, .ref A_sound, .ref A_reader, .ref aA_refused, .ref aA_heardBy])), (aA_refused, .inl (gI G, 3, .inl (res.2.1))), (aN, .inr (0, [.int N_width, .int N_height, .long N_everywhere, .long N_firstColumn, .long N_lastColumn, .ref aN_grounds, .ref aN_airs, .ref aN_tolds, .ref aN_fees, .ref aN_lets, .int N_makers, .ref aN_kinds, .ref aN_cells, .ref aN_selves, .ref aN_cries, .int (res.2.2.1), .ref aN_parts, .int (res.2.2.2.2.1), .ref aN_past])), (aN_parts, .inl (gI G, 40, .inl (res.2.2.2.1))), (aN_past, .inl (gI G, 328, .inl (res.2.2.2.2.2)))] := by
  refine Ct.mk (by decide) (Nat.le_of_ble_eq_true rfl) ?_
  intro p e s m args below meth c ls A Q C hE hW hl hQ
  have C : Cx p s args m c meth "LentAir" y_Ai_take b_Ai_take 2 (some .int) := C
  have hl : lv_has ls 2 [(0, .ref aA), (1, .int p1)] := hl
  unfold f_Ai_take at h
  refine lv_aload_n C.1.1 C.1.2.1 d_Ai_take_0 rfl (lv_at hl 0 rfl) ?_
  refine lv_iload_n C.1.1 C.1.2.1 d_Ai_take_1 rfl (lv_at hl 1 rfl) ?_
  obtain ⟨x1, hc2, h⟩ := bd_at h
  refine x_callV (ws' := [(aA, .inr (3, [.ref aN, .ref A_draft, .ref aA_images, .ref aA_kept, .ref A_sound, .ref A_reader, .ref aA_refused, .ref aA_heardBy])), (aA_refused, .inl (gI G, 3, .inl A_refused)), (aN, .inr (0, [.int N_width, .int N_height, .long N_everywhere, .long N_firstColumn, .long N_lastColumn, .ref aN_grounds, .ref aN_airs, .ref aN_tolds, .ref aN_fees, .ref aN_lets, .int N_makers, .ref aN_kinds, .ref aN_cells, .ref aN_selves, .ref aN_cries, .int N_leaves, .ref aN_parts, .int N_pasts, .ref aN_past])), (aN_parts, .inl (gI G, 40, .inl N_parts)), (aN_past, .inl (gI G, 328, .inl N_past))]) (stk := [.int x1]) (rest := []) (As := [.int p1]) (q0 := 0) C hE hW (c_Ai_isLeave l G aA aA_images aA_kept aA_refused aA_heardBy aN aN_grounds aN_airs aN_tolds aN_fees aN_lets aN_kinds aN_cells aN_selves aN_cries aN_parts aN_past A_draft A_sound A_reader N_width N_height N_everywhere N_firstColumn N_lastColumn N_makers N_leaves N_pasts p1 hc2) cv_Ai_isLeave tw383 hl rfl rfl (Nat.le_of_ble_eq_true rfl) rfl rfl rfl ⟨Nat.le_of_ble_eq_true rfl, Nat.le_of_ble_eq_true rfl⟩ ⟨Nat.zero_le _, Nat.zero_le _⟩ [0, 2] [1, 3, 4] [3, 0, 4, 1, 2] rfl rfl rfl (by decide) rfl rfl rfl rfl d_Ai_take_2 (fun H locs hW => ?_)
  refine lv_if_ne (tgt := 15) C.1.1 C.1.2.1 d_Ai_take_5 (by decide) (fun cc => ?_) (fun cc => ?_)
  · replace h := it_f cc h
    refine lv_aload_n C.1.1 C.1.2.1 d_Ai_take_15 rfl (lv_at hl 0 rfl) ?_
    refine x_get C hE hW fl_Ai_12 0 rfl rfl d_Ai_take_16 ?_
    obtain ⟨⟨x3, x4⟩, hc5, h⟩ := bd_at h
    refine x_callV (ws' := [(aA, .inr (3, [.ref aN, .ref A_draft, .ref aA_images, .ref aA_kept, .ref A_sound, .ref A_reader, .ref aA_refused, .ref aA_heardBy])), (aA_refused, .inl (gI G, 3, .inl A_refused)), (aN, .inr (0, [.int N_width, .int N_height, .long N_everywhere, .long N_firstColumn, .long N_lastColumn, .ref aN_grounds, .ref aN_airs, .ref aN_tolds, .ref aN_fees, .ref aN_lets, .int N_makers, .ref aN_kinds, .ref aN_cells, .ref aN_selves, .ref aN_cries, .int N_leaves, .ref aN_parts, .int x3, .ref aN_past])), (aN_parts, .inl (gI G, 40, .inl N_parts)), (aN_past, .inl (gI G, 328, .inl x4))]) (stk := []) (rest := []) (As := []) (q0 := 2) C hE hW (c_Ld_keepPast l G aN aN_grounds aN_airs aN_tolds aN_fees aN_lets aN_kinds aN_cells aN_selves aN_cries aN_parts aN_past N_width N_height N_everywhere N_firstColumn N_lastColumn N_makers N_leaves N_pasts N_parts N_past hc5) cv_Ld_keepPast tw368 hl rfl rfl (Nat.le_of_ble_eq_true rfl) rfl rfl rfl ⟨Nat.le_of_ble_eq_true rfl, Nat.le_of_ble_eq_true rfl⟩ ⟨Nat.zero_le _, Nat.zero_le _⟩ [2, 3, 4] [0, 1] [0, 1, 2, 3, 4] rfl rfl rfl (by decide) rfl rfl rfl rfl d_Ai_take_19 (fun H locs hW => ?_)
    refine lv_aload_n C.1.1 C.1.2.1 d_Ai_take_22 rfl (lv_at hl 0 rfl) ?_
    refine x_get C hE hW fl_Ai_12 0 rfl rfl d_Ai_take_23 ?_
    refine lv_iload_n C.1.1 C.1.2.1 d_Ai_take_26 rfl (lv_at hl 1 rfl) ?_
    obtain ⟨⟨x6, x7⟩, hc8, h⟩ := bd_at h
    refine x_callV (ws' := [(aA, .inr (3, [.ref aN, .ref A_draft, .ref aA_images, .ref aA_kept, .ref A_sound, .ref A_reader, .ref aA_refused, .ref aA_heardBy])), (aA_refused, .inl (gI G, 3, .inl A_refused)), (aN, .inr (0, [.int N_width, .int N_height, .long N_everywhere, .long N_firstColumn, .long N_lastColumn, .ref aN_grounds, .ref aN_airs, .ref aN_tolds, .ref aN_fees, .ref aN_lets, .int N_makers, .ref aN_kinds, .ref aN_cells, .ref aN_selves, .ref aN_cries, .int x6, .ref aN_parts, .int x3, .ref aN_past])), (aN_parts, .inl (gI G, 40, .inl x7)), (aN_past, .inl (gI G, 328, .inl x4))]) (stk := []) (rest := []) (As := [.int p1]) (q0 := 2) C hE hW (c_Ld_dropLeave l G aN aN_grounds aN_airs aN_tolds aN_fees aN_lets aN_kinds aN_cells aN_selves aN_cries aN_parts aN_past N_width N_height N_everywhere N_firstColumn N_lastColumn N_makers N_leaves x3 N_parts p1 hc8) cv_Ld_dropLeave tw387 hl rfl rfl (Nat.le_of_ble_eq_true rfl) rfl rfl rfl ⟨Nat.le_of_ble_eq_true rfl, Nat.le_of_ble_eq_true rfl⟩ ⟨Nat.zero_le _, Nat.zero_le _⟩ [2, 3] [0, 1, 4] [0, 1, 3, 4, 2] rfl rfl rfl (by decide) rfl rfl rfl rfl d_Ai_take_27 (fun H locs hW => ?_)
    refine lv_aload_n C.1.1 C.1.2.1 d_Ai_take_30 rfl (lv_at hl 0 rfl) ?_
    refine x_get C hE hW fl_Ai_12 0 rfl rfl d_Ai_take_31 ?_
    refine x_get C hE hW fl_Ai_97 2 rfl rfl d_Ai_take_34 ?_
    obtain rfl := Option.some.inj h
    exact x_iret C hW rfl rfl hQ d_Ai_take_37
  · replace h := it_t cc h
    refine lv_aload_n C.1.1 C.1.2.1 d_Ai_take_8 rfl (lv_at hl 0 rfl) ?_
    refine lv_bipush (v := (-2)) C.1.1 C.1.2.1 d_Ai_take_9 (by decide) ?_
    obtain ⟨⟨x9, x10⟩, hc11, h⟩ := bd_at h
    refine x_callV (ws' := [(aA, .inr (3, [.ref aN, .ref A_draft, .ref aA_images, .ref aA_kept, .ref A_sound, .ref A_reader, .ref aA_refused, .ref aA_heardBy])), (aA_refused, .inl (gI G, 3, .inl x10)), (aN, .inr (0, [.int N_width, .int N_height, .long N_everywhere, .long N_firstColumn, .long N_lastColumn, .ref aN_grounds, .ref aN_airs, .ref aN_tolds, .ref aN_fees, .ref aN_lets, .int N_makers, .ref aN_kinds, .ref aN_cells, .ref aN_selves, .ref aN_cries, .int N_leaves, .ref aN_parts, .int N_pasts, .ref aN_past])), (aN_parts, .inl (gI G, 40, .inl N_parts)), (aN_past, .inl (gI G, 328, .inl N_past))]) (stk := [.int x9]) (rest := []) (As := [.int (-2)]) (q0 := 0) C hE hW (c_Ai_refuse l G aA aA_images aA_kept aA_refused aA_heardBy aN A_draft A_sound A_reader A_refused (-2) hc11) cv_Ai_refuse tw308 hl rfl rfl (Nat.le_of_ble_eq_true rfl) rfl rfl rfl ⟨Nat.le_of_ble_eq_true rfl, Nat.le_of_ble_eq_true rfl⟩ ⟨Nat.zero_le _, Nat.zero_le _⟩ [0, 1] [2, 3, 4] [3, 4, 0, 1, 2] rfl rfl rfl (by decide) rfl rfl rfl rfl d_Ai_take_11 (fun H locs hW => ?_)
    obtain rfl := Option.some.inj h
    exact x_iret C hW rfl rfl hQ d_Ai_take_14
set_option maxHeartbeats 4000000 in
set_option maxRecDepth 100000 in
theorem c_Ai_undo (l : Launch) (G : Gl) (aA : Nat) (aA_images : Nat) (aA_kept : Nat) (aA_refused : Nat) (aA_heardBy : Nat) (aN : Nat) (aN_grounds : Nat) (aN_airs : Nat) (aN_tolds : Nat) (aN_fees : Nat) (aN_lets : Nat) (aN_kinds : Nat) (aN_cells : Nat) (aN_selves : Nat) (aN_cries : Nat) (aN_parts : Nat) (aN_past : Nat) (A_draft : Nat) (A_sound : Nat) (A_reader : Nat) (N_width : Int32) (N_height : Int32) (N_everywhere : Int64) (N_firstColumn : Int64) (N_lastColumn : Int64) (N_makers : Int32) (N_leaves : Int32) (N_pasts : Int32) (A_refused : Nat → Int32) (N_parts : Nat → Int32) (N_past : Nat → Int32) {res : Int32 × (Nat → Int32) × Int32 × (Nat → Int32) × Int32} (h : f_Ai_undo N_leaves N_pasts A_refused N_parts N_past = some res) : Ct l y_Ai_undo b_Ai_undo 1 (some .int) 2 61 G [.ref aA] [(aA, .inr (3, [.ref aN, .ref A_draft, .ref aA_images, .ref aA_kept, .ref A_sound, .ref A_reader, .ref aA_refused, .ref aA_heardBy])), (aA_refused, .inl (gI G, 3, .inl A_refused)), (aN, .inr (0, [.int N_width, .int N_height, .long N_everywhere, .long N_firstColumn, .long N_lastColumn, .ref aN_grounds, .ref aN_airs, .ref aN_tolds, .ref aN_fees, .ref aN_lets, .int N_makers, .ref aN_kinds, .ref aN_cells, .ref aN_selves, .ref aN_cries, .int N_leaves, .ref aN_parts, .int N_pasts, .ref aN_past])), (aN_parts, .inl (gI G, 40, .inl N_parts)), (aN_past, .inl (gI G, 328, .inl N_past))] (some (.int res.1)) [(aA, .inr (3, [.ref aN, .ref A_draft, .ref aA_images, .ref aA_kept, .ref A_sound, .ref A_reader, .ref aA_refused, .ref aA_heardBy])), (aA_refused, .inl (gI G, 3, .inl (res.2.1))), (aN, .inr (0, [.int N_width, .int N_height, .long N_everywhere, .long N_firstColumn, .long N_lastColumn, .ref aN_grounds, .ref aN_airs, .ref aN_tolds, .ref aN_fees, .ref aN_lets, .int N_makers, .ref aN_kinds, .ref aN_cells, .ref aN_selves, .ref aN_cries, .int (res.2.2.1), .ref aN_parts, .int (res.2.2.2.2), .ref aN_past])), (aN_parts, .inl (gI G, 40, .inl (res.2.2.2.1))), (aN_past, .inl (gI G, 328, .inl N_past))] := by
  refine Ct.mk (by decide) (Nat.le_of_ble_eq_true rfl) ?_
  intro p e s m args below meth c ls A Q C hE hW hl hQ
  have C : Cx p s args m c meth "LentAir" y_Ai_undo b_Ai_undo 1 (some .int) := C
  have hl : lv_has ls 1 [(0, .ref aA)] := hl
  unfold f_Ai_undo at h
  refine lv_aload_n C.1.1 C.1.2.1 d_Ai_undo_0 rfl (lv_at hl 0 rfl) ?_
  refine x_get C hE hW fl_Ai_12 0 rfl rfl d_Ai_undo_1 ?_
  refine x_get C hE hW fl_Ai_114 2 rfl rfl d_Ai_undo_4 ?_
  refine lv_iconst (v := 1) C.1.1 C.1.2.1 d_Ai_undo_7 (by decide) ?_
  refine lv_icmp_ge (tgt := 18) C.1.1 C.1.2.1 d_Ai_undo_8 (by decide) (fun cc => ?_) (fun cc => ?_)
  · replace h := it_t cc h
    refine lv_aload_n C.1.1 C.1.2.1 d_Ai_undo_18 rfl (lv_at hl 0 rfl) ?_
    refine x_get C hE hW fl_Ai_12 0 rfl rfl d_Ai_undo_19 ?_
    obtain ⟨⟨x1, x2, x3⟩, hc4, h⟩ := bd_at h
    refine x_callV (ws' := [(aA, .inr (3, [.ref aN, .ref A_draft, .ref aA_images, .ref aA_kept, .ref A_sound, .ref A_reader, .ref aA_refused, .ref aA_heardBy])), (aA_refused, .inl (gI G, 3, .inl A_refused)), (aN, .inr (0, [.int N_width, .int N_height, .long N_everywhere, .long N_firstColumn, .long N_lastColumn, .ref aN_grounds, .ref aN_airs, .ref aN_tolds, .ref aN_fees, .ref aN_lets, .int N_makers, .ref aN_kinds, .ref aN_cells, .ref aN_selves, .ref aN_cries, .int x1, .ref aN_parts, .int x3, .ref aN_past])), (aN_parts, .inl (gI G, 40, .inl x2)), (aN_past, .inl (gI G, 328, .inl N_past))]) (stk := []) (rest := []) (As := []) (q0 := 2) C hE hW (c_Ld_goBack l G aN aN_grounds aN_airs aN_tolds aN_fees aN_lets aN_kinds aN_cells aN_selves aN_cries aN_parts aN_past N_width N_height N_everywhere N_firstColumn N_lastColumn N_makers N_leaves N_pasts N_parts N_past hc4) cv_Ld_goBack tw395 hl rfl rfl (Nat.le_of_ble_eq_true rfl) rfl rfl rfl ⟨Nat.le_of_ble_eq_true rfl, Nat.le_of_ble_eq_true rfl⟩ ⟨Nat.zero_le _, Nat.zero_le _⟩ [2, 3, 4] [0, 1] [0, 1, 2, 3, 4] rfl rfl rfl (by decide) rfl rfl rfl rfl d_Ai_undo_22 (fun H locs hW => ?_)
    refine lv_aload_n C.1.1 C.1.2.1 d_Ai_undo_25 rfl (lv_at hl 0 rfl) ?_
    refine x_get C hE hW fl_Ai_12 0 rfl rfl d_Ai_undo_26 ?_
    refine x_get C hE hW fl_Ai_97 2 rfl rfl d_Ai_undo_29 ?_
    obtain rfl := Option.some.inj h
    exact x_iret C hW rfl rfl hQ d_Ai_undo_32
  · replace h := it_f cc h
    refine lv_aload_n C.1.1 C.1.2.1 d_Ai_undo_11 rfl (lv_at hl 0 rfl) ?_
    refine lv_bipush (v := (-3)) C.1.1 C.1.2.1 d_Ai_undo_12 (by decide) ?_
    obtain ⟨⟨x5, x6⟩, hc7, h⟩ := bd_at h
    refine x_callV (ws' := [(aA, .inr (3, [.ref aN, .ref A_draft, .ref aA_images, .ref aA_kept, .ref A_sound, .ref A_reader, .ref aA_refused, .ref aA_heardBy])), (aA_refused, .inl (gI G, 3, .inl x6)), (aN, .inr (0, [.int N_width, .int N_height, .long N_everywhere, .long N_firstColumn, .long N_lastColumn, .ref aN_grounds, .ref aN_airs, .ref aN_tolds, .ref aN_fees, .ref aN_lets, .int N_makers, .ref aN_kinds, .ref aN_cells, .ref aN_selves, .ref aN_cries, .int N_leaves, .ref aN_parts, .int N_pasts, .ref aN_past])), (aN_parts, .inl (gI G, 40, .inl N_parts)), (aN_past, .inl (gI G, 328, .inl N_past))]) (stk := [.int x5]) (rest := []) (As := [.int (-3)]) (q0 := 0) C hE hW (c_Ai_refuse l G aA aA_images aA_kept aA_refused aA_heardBy aN A_draft A_sound A_reader A_refused (-3) hc7) cv_Ai_refuse tw308 hl rfl rfl (Nat.le_of_ble_eq_true rfl) rfl rfl rfl ⟨Nat.le_of_ble_eq_true rfl, Nat.le_of_ble_eq_true rfl⟩ ⟨Nat.zero_le _, Nat.zero_le _⟩ [0, 1] [2, 3, 4] [3, 4, 0, 1, 2] rfl rfl rfl (by decide) rfl rfl rfl rfl d_Ai_undo_14 (fun H locs hW => ?_)
    obtain rfl := Option.some.inj h
    exact x_iret C hW rfl rfl hQ d_Ai_undo_17
set_option maxHeartbeats 4000000 in
set_option maxRecDepth 100000 in
theorem c_Ai_about (l : Launch) (G : Gl) (aA : Nat) (aA_images : Nat) (aA_kept : Nat) (aA_refused : Nat) (aA_heardBy : Nat) (aN : Nat) (aN_grounds : Nat) (aN_airs : Nat) (aN_tolds : Nat) (aN_fees : Nat) (aN_lets : Nat) (aN_kinds : Nat) (aN_cells : Nat) (aN_selves : Nat) (aN_cries : Nat) (aN_parts : Nat) (aN_past : Nat) (A_draft : Nat) (A_sound : Nat) (A_reader : Nat) (N_width : Int32) (N_height : Int32) (N_everywhere : Int64) (N_firstColumn : Int64) (N_lastColumn : Int64) (N_makers : Int32) (N_leaves : Int32) (N_pasts : Int32) (A_refused : Nat → Int32) (N_parts : Nat → Int32) (p1 : Int32) (p2 : Int32) {res : Int32 × (Nat → Int32)} (h : f_Ai_about N_leaves A_refused N_parts p1 p2 = some res) : Ct l y_Ai_about b_Ai_about 3 (some .int) 2 44 G [.ref aA, .int p1, .int p2] [(aA, .inr (3, [.ref aN, .ref A_draft, .ref aA_images, .ref aA_kept, .ref A_sound, .ref A_reader, .ref aA_refused, .ref aA_heardBy])), (aA_refused, .inl (gI G, 3, .inl A_refused)), (aN, .inr (0, [.int N_width, .int N_height, .long N_everywhere, .long N_firstColumn, .long N_lastColumn, .ref aN_grounds, .ref aN_airs, .ref aN_tolds, .ref aN_fees, .ref aN_lets, .int N_makers, .ref aN_kinds, .ref aN_cells, .ref aN_selves, .ref aN_cries, .int N_leaves, .ref aN_parts, .int N_pasts, .ref aN_past])), (aN_parts, .inl (gI G, 40, .inl N_parts))] (some (.int res.1)) [(aA, .inr (3, [.ref aN, .ref A_draft, .ref aA_images, .ref aA_kept, .ref A_sound, .ref A_reader, .ref aA_refused, .ref aA_heardBy])), (aA_refused, .inl (gI G, 3, .inl (res.2))), (aN, .inr (0, [.int N_width, .int N_height, .long N_everywhere, .long N_firstColumn, .long N_lastColumn, .ref aN_grounds, .ref aN_airs, .ref aN_tolds, .ref aN_fees, .ref aN_lets, .int N_makers, .ref aN_kinds, .ref aN_cells, .ref aN_selves, .ref aN_cries, .int N_leaves, .ref aN_parts, .int N_pasts, .ref aN_past])), (aN_parts, .inl (gI G, 40, .inl N_parts))] := by
  refine Ct.mk (by decide) (Nat.le_of_ble_eq_true rfl) ?_
  intro p e s m args below meth c ls A Q C hE hW hl hQ
  have C : Cx p s args m c meth "LentAir" y_Ai_about b_Ai_about 3 (some .int) := C
  have hl : lv_has ls 3 [(0, .ref aA), (1, .int p1), (2, .int p2)] := hl
  unfold f_Ai_about at h
  refine lv_aload_n C.1.1 C.1.2.1 d_Ai_about_0 rfl (lv_at hl 0 rfl) ?_
  refine lv_iload_n C.1.1 C.1.2.1 d_Ai_about_1 rfl (lv_at hl 1 rfl) ?_
  obtain ⟨x1, hc2, h⟩ := bd_at h
  refine x_callV (ws' := [(aA, .inr (3, [.ref aN, .ref A_draft, .ref aA_images, .ref aA_kept, .ref A_sound, .ref A_reader, .ref aA_refused, .ref aA_heardBy])), (aA_refused, .inl (gI G, 3, .inl A_refused)), (aN, .inr (0, [.int N_width, .int N_height, .long N_everywhere, .long N_firstColumn, .long N_lastColumn, .ref aN_grounds, .ref aN_airs, .ref aN_tolds, .ref aN_fees, .ref aN_lets, .int N_makers, .ref aN_kinds, .ref aN_cells, .ref aN_selves, .ref aN_cries, .int N_leaves, .ref aN_parts, .int N_pasts, .ref aN_past])), (aN_parts, .inl (gI G, 40, .inl N_parts))]) (stk := [.int x1]) (rest := []) (As := [.int p1]) (q0 := 0) C hE hW (c_Ai_isLeave l G aA aA_images aA_kept aA_refused aA_heardBy aN aN_grounds aN_airs aN_tolds aN_fees aN_lets aN_kinds aN_cells aN_selves aN_cries aN_parts aN_past A_draft A_sound A_reader N_width N_height N_everywhere N_firstColumn N_lastColumn N_makers N_leaves N_pasts p1 hc2) cv_Ai_isLeave tw383 hl rfl rfl (Nat.le_of_ble_eq_true rfl) rfl rfl rfl ⟨Nat.le_of_ble_eq_true rfl, Nat.le_of_ble_eq_true rfl⟩ ⟨Nat.zero_le _, Nat.zero_le _⟩ [0, 2] [1, 3] [2, 0, 3, 1] rfl rfl rfl (by decide) rfl rfl rfl rfl d_Ai_about_2 (fun H locs hW => ?_)
  refine jn_at (P := fun (_ : Unit) => ∀ (H : Heap) (locs : List Loc) (ls : Array Slot), Wd G A s.heap H locs [(aA, .inr (3, [.ref aN, .ref A_draft, .ref aA_images, .ref aA_kept, .ref A_sound, .ref A_reader, .ref aA_refused, .ref aA_heardBy])), (aA_refused, .inl (gI G, 3, .inl A_refused)), (aN, .inr (0, [.int N_width, .int N_height, .long N_everywhere, .long N_firstColumn, .long N_lastColumn, .ref aN_grounds, .ref aN_airs, .ref aN_tolds, .ref aN_fees, .ref aN_lets, .int N_makers, .ref aN_kinds, .ref aN_cells, .ref aN_selves, .ref aN_cries, .int N_leaves, .ref aN_parts, .int N_pasts, .ref aN_past])), (aN_parts, .inl (gI G, 40, .inl N_parts))] → lv_has ls 3 [(0, .ref aA)] → W p l e (RM 2 44) s m args below meth c H locs 0 0 Q (F0 m 17 ls [])) h ?_ ?_
  · skip
    intro _ h
    intro H locs ls hW hl
    refine lv_aload_n C.1.1 C.1.2.1 d_Ai_about_17 rfl (lv_at hl 0 rfl) ?_
    refine lv_bipush (v := (-2)) C.1.1 C.1.2.1 d_Ai_about_18 (by decide) ?_
    obtain ⟨⟨x3, x4⟩, hc5, h⟩ := bd_at h
    refine x_callV (ws' := [(aA, .inr (3, [.ref aN, .ref A_draft, .ref aA_images, .ref aA_kept, .ref A_sound, .ref A_reader, .ref aA_refused, .ref aA_heardBy])), (aA_refused, .inl (gI G, 3, .inl x4)), (aN, .inr (0, [.int N_width, .int N_height, .long N_everywhere, .long N_firstColumn, .long N_lastColumn, .ref aN_grounds, .ref aN_airs, .ref aN_tolds, .ref aN_fees, .ref aN_lets, .int N_makers, .ref aN_kinds, .ref aN_cells, .ref aN_selves, .ref aN_cries, .int N_leaves, .ref aN_parts, .int N_pasts, .ref aN_past])), (aN_parts, .inl (gI G, 40, .inl N_parts))]) (stk := [.int x3]) (rest := []) (As := [.int (-2)]) (q0 := 0) C hE hW (c_Ai_refuse l G aA aA_images aA_kept aA_refused aA_heardBy aN A_draft A_sound A_reader A_refused (-2) hc5) cv_Ai_refuse tw308 hl rfl rfl (Nat.le_of_ble_eq_true rfl) rfl rfl rfl ⟨Nat.le_of_ble_eq_true rfl, Nat.le_of_ble_eq_true rfl⟩ ⟨Nat.zero_le _, Nat.zero_le _⟩ [0, 1] [2, 3] [2, 3, 0, 1] rfl rfl rfl (by decide) rfl rfl rfl rfl d_Ai_about_20 (fun H locs hW => ?_)
    obtain rfl := Option.some.inj h
    exact x_iret C hW rfl rfl hQ d_Ai_about_23
  · intro J17 hJ17 h
    refine lv_if_eq (tgt := 17) C.1.1 C.1.2.1 d_Ai_about_5 (by decide) (fun cc => ?_) (fun cc => ?_)
    · replace h := it_t cc h
      exact hJ17 _ h _ _ _ hW (lv_sub hl [0] rfl)
    · replace h := it_f cc h
      refine lv_iload_n C.1.1 C.1.2.1 d_Ai_about_8 rfl (lv_at hl 2 rfl) ?_
      refine lv_if_lt (tgt := 17) C.1.1 C.1.2.1 d_Ai_about_9 (by decide) (fun cc => ?_) (fun cc => ?_)
      · replace h := it_t cc h
        exact hJ17 _ h _ _ _ hW (lv_sub hl [0] rfl)
      · replace h := it_f cc h
        refine lv_iload_n C.1.1 C.1.2.1 d_Ai_about_12 rfl (lv_at hl 2 rfl) ?_
        refine lv_iconst (v := 5) C.1.1 C.1.2.1 d_Ai_about_13 (by decide) ?_
        refine lv_icmp_lt (tgt := 24) C.1.1 C.1.2.1 d_Ai_about_14 (by decide) (fun cc => ?_) (fun cc => ?_)
        · replace h := it_t cc h
          refine lv_aload_n C.1.1 C.1.2.1 d_Ai_about_24 rfl (lv_at hl 0 rfl) ?_
          refine x_get C hE hW fl_Ai_12 0 rfl rfl d_Ai_about_25 ?_
          refine lv_iload_n C.1.1 C.1.2.1 d_Ai_about_28 rfl (lv_at hl 1 rfl) ?_
          refine lv_iload_n C.1.1 C.1.2.1 d_Ai_about_29 rfl (lv_at hl 2 rfl) ?_
          obtain ⟨x6, hc7, h⟩ := bd_at h
          refine x_callV (ws' := [(aA, .inr (3, [.ref aN, .ref A_draft, .ref aA_images, .ref aA_kept, .ref A_sound, .ref A_reader, .ref aA_refused, .ref aA_heardBy])), (aA_refused, .inl (gI G, 3, .inl A_refused)), (aN, .inr (0, [.int N_width, .int N_height, .long N_everywhere, .long N_firstColumn, .long N_lastColumn, .ref aN_grounds, .ref aN_airs, .ref aN_tolds, .ref aN_fees, .ref aN_lets, .int N_makers, .ref aN_kinds, .ref aN_cells, .ref aN_selves, .ref aN_cries, .int N_leaves, .ref aN_parts, .int N_pasts, .ref aN_past])), (aN_parts, .inl (gI G, 40, .inl N_parts))]) (stk := [.int x6]) (rest := []) (As := [.int p1, .int p2]) (q0 := 2) C hE hW (c_Ld_part l G aN aN_grounds aN_airs aN_tolds aN_fees aN_lets aN_kinds aN_cells aN_selves aN_cries aN_parts aN_past N_width N_height N_everywhere N_firstColumn N_lastColumn N_makers N_leaves N_pasts N_parts p1 p2 hc7) cv_Ld_part tw403 hl rfl rfl (Nat.le_of_ble_eq_true rfl) rfl rfl rfl ⟨Nat.le_of_ble_eq_true rfl, Nat.le_of_ble_eq_true rfl⟩ ⟨Nat.zero_le _, Nat.zero_le _⟩ [2, 3] [0, 1] [0, 1, 2, 3] rfl rfl rfl (by decide) rfl rfl rfl rfl d_Ai_about_30 (fun H locs hW => ?_)
          obtain rfl := Option.some.inj h
          exact x_iret C hW rfl rfl hQ d_Ai_about_33
        · replace h := it_f cc h
          exact hJ17 _ h _ _ _ hW (lv_sub hl [0] rfl)
set_option maxHeartbeats 4000000 in
set_option maxRecDepth 100000 in
theorem c_Ai_type (l : Launch) (G : Gl) (aA : Nat) (aA_images : Nat) (aA_kept : Nat) (aA_refused : Nat) (aA_heardBy : Nat) (aR : Nat) (aR_text : Nat) (aR_numbers : Nat) (A_now : Nat) (A_draft : Nat) (A_sound : Nat) (R_length : Int32) (R_land : Nat) (R_place : Int32) (R_end : Int32) (R_token : Int32) (A_refused : Nat → Int32) (R_text : Nat → Int32) (p1 : Int32) {res : Int32 × (Nat → Int32) × (Nat → Int32) × Int32} (h : f_Ai_type R_length A_refused R_text p1 = some res) : Ct l y_Ai_type b_Ai_type 2 (some .int) 2 44 G [.ref aA, .int p1] [(aA, .inr (3, [.ref A_now, .ref A_draft, .ref aA_images, .ref aA_kept, .ref A_sound, .ref aR, .ref aA_refused, .ref aA_heardBy])), (aA_refused, .inl (gI G, 3, .inl A_refused)), (aR, .inr (1, [.ref aR_text, .int R_length, .ref R_land, .int R_place, .int R_end, .int R_token, .ref aR_numbers])), (aR_text, .inl (gB G, 150, .inl R_text))] (some (.int res.1)) [(aA, .inr (3, [.ref A_now, .ref A_draft, .ref aA_images, .ref aA_kept, .ref A_sound, .ref aR, .ref aA_refused, .ref aA_heardBy])), (aA_refused, .inl (gI G, 3, .inl (res.2.1))), (aR, .inr (1, [.ref aR_text, .int (res.2.2.2), .ref R_land, .int R_place, .int R_end, .int R_token, .ref aR_numbers])), (aR_text, .inl (gB G, 150, .inl (res.2.2.1)))] := by
  refine Ct.mk (by decide) (Nat.le_of_ble_eq_true rfl) ?_
  intro p e s m args below meth c ls A Q C hE hW hl hQ
  have C : Cx p s args m c meth "LentAir" y_Ai_type b_Ai_type 2 (some .int) := C
  have hl : lv_has ls 2 [(0, .ref aA), (1, .int p1)] := hl
  unfold f_Ai_type at h
  refine lv_iload_n C.1.1 C.1.2.1 d_Ai_type_0 rfl (lv_at hl 1 rfl) ?_
  refine jn_at (P := fun (_ : Unit) => ∀ (H : Heap) (locs : List Loc) (ls : Array Slot), Wd G A s.heap H locs [(aA, .inr (3, [.ref A_now, .ref A_draft, .ref aA_images, .ref aA_kept, .ref A_sound, .ref aR, .ref aA_refused, .ref aA_heardBy])), (aA_refused, .inl (gI G, 3, .inl A_refused)), (aR, .inr (1, [.ref aR_text, .int R_length, .ref R_land, .int R_place, .int R_end, .int R_token, .ref aR_numbers])), (aR_text, .inl (gB G, 150, .inl R_text))] → lv_has ls 2 [(0, .ref aA)] → W p l e (RM 2 44) s m args below meth c H locs 0 0 Q (F0 m 10 ls [])) h ?_ ?_
  · skip
    intro _ h
    intro H locs ls hW hl
    refine lv_aload_n C.1.1 C.1.2.1 d_Ai_type_10 rfl (lv_at hl 0 rfl) ?_
    refine lv_bipush (v := (-2)) C.1.1 C.1.2.1 d_Ai_type_11 (by decide) ?_
    obtain ⟨⟨x1, x2⟩, hc3, h⟩ := bd_at h
    refine x_callV (ws' := [(aA, .inr (3, [.ref A_now, .ref A_draft, .ref aA_images, .ref aA_kept, .ref A_sound, .ref aR, .ref aA_refused, .ref aA_heardBy])), (aA_refused, .inl (gI G, 3, .inl x2)), (aR, .inr (1, [.ref aR_text, .int R_length, .ref R_land, .int R_place, .int R_end, .int R_token, .ref aR_numbers])), (aR_text, .inl (gB G, 150, .inl R_text))]) (stk := [.int x1]) (rest := []) (As := [.int (-2)]) (q0 := 0) C hE hW (c_Ai_refuse l G aA aA_images aA_kept aA_refused aA_heardBy A_now A_draft A_sound aR A_refused (-2) hc3) cv_Ai_refuse tw308 hl rfl rfl (Nat.le_of_ble_eq_true rfl) rfl rfl rfl ⟨Nat.le_of_ble_eq_true rfl, Nat.le_of_ble_eq_true rfl⟩ ⟨Nat.zero_le _, Nat.zero_le _⟩ [0, 1] [2, 3] [2, 3, 0, 1] rfl rfl rfl (by decide) rfl rfl rfl rfl d_Ai_type_13 (fun H locs hW => ?_)
    obtain rfl := Option.some.inj h
    exact x_iret C hW rfl rfl hQ d_Ai_type_16
  · intro J10 hJ10 h
    refine lv_if_lt (tgt := 10) C.1.1 C.1.2.1 d_Ai_type_1 (by decide) (fun cc => ?_) (fun cc => ?_)
    · replace h := it_t cc h
      exact hJ10 _ h _ _ _ hW (lv_sub hl [0] rfl)
    · replace h := it_f cc h
      refine lv_iload_n C.1.1 C.1.2.1 d_Ai_type_4 rfl (lv_at hl 1 rfl) ?_
      refine lv_bipush (v := 127) C.1.1 C.1.2.1 d_Ai_type_5 (by decide) ?_
      refine lv_icmp_le (tgt := 17) C.1.1 C.1.2.1 d_Ai_type_7 (by decide) (fun cc => ?_) (fun cc => ?_)
      · replace h := it_t cc h
        refine lv_aload_n C.1.1 C.1.2.1 d_Ai_type_17 rfl (lv_at hl 0 rfl) ?_
        refine x_get C hE hW fl_Ai_39 0 rfl rfl d_Ai_type_18 ?_
        refine lv_iload_n C.1.1 C.1.2.1 d_Ai_type_21 rfl (lv_at hl 1 rfl) ?_
        obtain ⟨⟨x4, x5, x6⟩, hc7, h⟩ := bd_at h
        refine x_callV (ws' := [(aA, .inr (3, [.ref A_now, .ref A_draft, .ref aA_images, .ref aA_kept, .ref A_sound, .ref aR, .ref aA_refused, .ref aA_heardBy])), (aA_refused, .inl (gI G, 3, .inl A_refused)), (aR, .inr (1, [.ref aR_text, .int x6, .ref R_land, .int R_place, .int R_end, .int R_token, .ref aR_numbers])), (aR_text, .inl (gB G, 150, .inl x5))]) (stk := [.int x4]) (rest := []) (As := [.int p1]) (q0 := 2) C hE hW (c_Rd_append l G aR aR_text aR_numbers R_length R_land R_place R_end R_token R_text p1 hc7) cv_Rd_append tw411 hl rfl rfl (Nat.le_of_ble_eq_true rfl) rfl rfl rfl ⟨Nat.le_of_ble_eq_true rfl, Nat.le_of_ble_eq_true rfl⟩ ⟨Nat.zero_le _, Nat.zero_le _⟩ [2, 3] [0, 1] [0, 1, 2, 3] rfl rfl rfl (by decide) rfl rfl rfl rfl d_Ai_type_22 (fun H locs hW => ?_)
        refine lv_if_ne (tgt := 35) C.1.1 C.1.2.1 d_Ai_type_25 (by decide) (fun cc => ?_) (fun cc => ?_)
        · replace h := it_f cc h
          refine lv_aload_n C.1.1 C.1.2.1 d_Ai_type_35 rfl (lv_at hl 0 rfl) ?_
          refine x_get C hE hW fl_Ai_39 0 rfl rfl d_Ai_type_36 ?_
          refine x_get C hE hW fl_Ai_126 2 rfl rfl d_Ai_type_39 ?_
          obtain rfl := Option.some.inj h
          exact x_iret C hW rfl rfl hQ d_Ai_type_42
        · replace h := it_t cc h
          refine lv_aload_n C.1.1 C.1.2.1 d_Ai_type_28 rfl (lv_at hl 0 rfl) ?_
          refine lv_bipush (v := (-4)) C.1.1 C.1.2.1 d_Ai_type_29 (by decide) ?_
          obtain ⟨⟨x8, x9⟩, hc10, h⟩ := bd_at h
          refine x_callV (ws' := [(aA, .inr (3, [.ref A_now, .ref A_draft, .ref aA_images, .ref aA_kept, .ref A_sound, .ref aR, .ref aA_refused, .ref aA_heardBy])), (aA_refused, .inl (gI G, 3, .inl x9)), (aR, .inr (1, [.ref aR_text, .int x6, .ref R_land, .int R_place, .int R_end, .int R_token, .ref aR_numbers])), (aR_text, .inl (gB G, 150, .inl x5))]) (stk := [.int x8]) (rest := []) (As := [.int (-4)]) (q0 := 0) C hE hW (c_Ai_refuse l G aA aA_images aA_kept aA_refused aA_heardBy A_now A_draft A_sound aR A_refused (-4) hc10) cv_Ai_refuse tw308 hl rfl rfl (Nat.le_of_ble_eq_true rfl) rfl rfl rfl ⟨Nat.le_of_ble_eq_true rfl, Nat.le_of_ble_eq_true rfl⟩ ⟨Nat.zero_le _, Nat.zero_le _⟩ [0, 1] [2, 3] [2, 3, 0, 1] rfl rfl rfl (by decide) rfl rfl rfl rfl d_Ai_type_31 (fun H locs hW => ?_)
          obtain rfl := Option.some.inj h
          exact x_iret C hW rfl rfl hQ d_Ai_type_34
      · replace h := it_f cc h
        exact hJ10 _ h _ _ _ hW (lv_sub hl [0] rfl)
set_option maxHeartbeats 4000000 in
set_option maxRecDepth 100000 in
theorem c_Ai_clear (l : Launch) (G : Gl) (aA : Nat) (aA_images : Nat) (aA_kept : Nat) (aA_refused : Nat) (aA_heardBy : Nat) (aR : Nat) (aR_text : Nat) (aR_numbers : Nat) (A_now : Nat) (A_draft : Nat) (A_sound : Nat) (R_length : Int32) (R_land : Nat) (R_place : Int32) (R_end : Int32) (R_token : Int32) {res : Int32 × Int32} (h : f_Ai_clear R_length = some res) : Ct l y_Ai_clear b_Ai_clear 1 (some .int) 1 21 G [.ref aA] [(aA, .inr (3, [.ref A_now, .ref A_draft, .ref aA_images, .ref aA_kept, .ref A_sound, .ref aR, .ref aA_refused, .ref aA_heardBy])), (aR, .inr (1, [.ref aR_text, .int R_length, .ref R_land, .int R_place, .int R_end, .int R_token, .ref aR_numbers]))] (some (.int res.1)) [(aA, .inr (3, [.ref A_now, .ref A_draft, .ref aA_images, .ref aA_kept, .ref A_sound, .ref aR, .ref aA_refused, .ref aA_heardBy])), (aR, .inr (1, [.ref aR_text, .int (res.2), .ref R_land, .int R_place, .int R_end, .int R_token, .ref aR_numbers]))] := by
  refine Ct.mk (by decide) (Nat.le_of_ble_eq_true rfl) ?_
  intro p e s m args below meth c ls A Q C hE hW hl hQ
  have C : Cx p s args m c meth "LentAir" y_Ai_clear b_Ai_clear 1 (some .int) := C
  have hl : lv_has ls 1 [(0, .ref aA)] := hl
  unfold f_Ai_clear at h
  refine lv_aload_n C.1.1 C.1.2.1 d_Ai_clear_0 rfl (lv_at hl 0 rfl) ?_
  refine x_get C hE hW fl_Ai_39 0 rfl rfl d_Ai_clear_1 ?_
  obtain ⟨⟨x1, x2⟩, hc3, h⟩ := bd_at h
  refine x_callV (ws' := [(aA, .inr (3, [.ref A_now, .ref A_draft, .ref aA_images, .ref aA_kept, .ref A_sound, .ref aR, .ref aA_refused, .ref aA_heardBy])), (aR, .inr (1, [.ref aR_text, .int x2, .ref R_land, .int R_place, .int R_end, .int R_token, .ref aR_numbers]))]) (stk := [.int x1]) (rest := []) (As := []) (q0 := 1) C hE hW (c_Rd_empty l G aR aR_text aR_numbers R_length R_land R_place R_end R_token hc3) cv_Rd_empty tw419 hl rfl rfl (Nat.le_of_ble_eq_true rfl) rfl rfl rfl ⟨Nat.le_of_ble_eq_true rfl, Nat.le_of_ble_eq_true rfl⟩ ⟨Nat.zero_le _, Nat.zero_le _⟩ [1] [0] [0, 1] rfl rfl rfl (by decide) rfl rfl rfl rfl d_Ai_clear_4 (fun H locs hW => ?_)
  obtain rfl := Option.some.inj h
  exact x_iret C hW rfl rfl hQ d_Ai_clear_7
set_option maxHeartbeats 4000000 in
set_option maxRecDepth 100000 in
theorem c_Ai_read (l : Launch) (G : Gl) (aA : Nat) (aA_images : Nat) (aA_kept : Nat) (aA_refused : Nat) (aA_heardBy : Nat) (aD : Nat) (aD_grounds : Nat) (aD_airs : Nat) (aD_tolds : Nat) (aD_fees : Nat) (aD_lets : Nat) (aD_kinds : Nat) (aD_cells : Nat) (aD_selves : Nat) (aD_cries : Nat) (aD_parts : Nat) (aD_past : Nat) (aR : Nat) (aR_text : Nat) (aR_numbers : Nat) (aN : Nat) (A_sound : Nat) (D_width : Int32) (D_height : Int32) (D_everywhere : Int64) (D_firstColumn : Int64) (D_lastColumn : Int64) (D_makers : Int32) (D_leaves : Int32) (D_pasts : Int32) (R_length : Int32) (R_land : Nat) (R_place : Int32) (R_end : Int32) (R_token : Int32) (D_grounds : Nat → Int64) (D_airs : Nat → Int64) (D_tolds : Nat → Int64) (D_fees : Nat → Int32) (D_lets : Nat → Int32) (D_kinds : Nat → Int32) (D_cells : Nat → Int32) (D_selves : Nat → Int32) (D_cries : Nat → Int32) (D_parts : Nat → Int32) (R_text : Nat → Int32) (R_numbers : Nat → Int32) {res : Int32 × Nat × Nat × Int32 × Int32 × Int64 × Int64 × Int64 × (Nat → Int64) × (Nat → Int64) × (Nat → Int64) × (Nat → Int32) × (Nat → Int32) × Int32 × (Nat → Int32) × (Nat → Int32) × (Nat → Int32) × (Nat → Int32) × Int32 × (Nat → Int32) × Int32 × Int32 × Int32 × Int32 × (Nat → Int32)} (h : f_Ai_read aD aN D_width D_height D_everywhere D_firstColumn D_lastColumn D_makers D_leaves D_pasts R_length D_grounds D_airs D_tolds D_fees D_lets D_kinds D_cells D_selves D_cries D_parts R_text R_numbers = some res) : Ct l y_Ai_read b_Ai_read 3 (some .int) 8 175 G [.ref aA] [(aA, .inr (3, [.ref aN, .ref aD, .ref aA_images, .ref aA_kept, .ref A_sound, .ref aR, .ref aA_refused, .ref aA_heardBy])), (aD, .inr (0, [.int D_width, .int D_height, .long D_everywhere, .long D_firstColumn, .long D_lastColumn, .ref aD_grounds, .ref aD_airs, .ref aD_tolds, .ref aD_fees, .ref aD_lets, .int D_makers, .ref aD_kinds, .ref aD_cells, .ref aD_selves, .ref aD_cries, .int D_leaves, .ref aD_parts, .int D_pasts, .ref aD_past])), (aD_grounds, .inl (gJ G, 3, .inr (.inl D_grounds))), (aD_airs, .inl (gJ G, 6, .inr (.inl D_airs))), (aD_tolds, .inl (gJ G, 3, .inr (.inl D_tolds))), (aD_fees, .inl (gI G, 6, .inl D_fees)), (aD_lets, .inl (gI G, 6, .inl D_lets)), (aD_kinds, .inl (gI G, 6, .inl D_kinds)), (aD_cells, .inl (gI G, 6, .inl D_cells)), (aD_selves, .inl (gI G, 6, .inl D_selves)), (aD_cries, .inl (gI G, 6, .inl D_cries)), (aD_parts, .inl (gI G, 40, .inl D_parts)), (aR, .inr (1, [.ref aR_text, .int R_length, .ref R_land, .int R_place, .int R_end, .int R_token, .ref aR_numbers])), (aR_text, .inl (gB G, 150, .inl R_text)), (aR_numbers, .inl (gI G, 5, .inl R_numbers))] (some (.int res.1)) [(aA, .inr (3, [.ref (res.2.1), .ref (res.2.2.1), .ref aA_images, .ref aA_kept, .ref A_sound, .ref aR, .ref aA_refused, .ref aA_heardBy])), (aD, .inr (0, [.int (res.2.2.2.1), .int (res.2.2.2.2.1), .long (res.2.2.2.2.2.1), .long (res.2.2.2.2.2.2.1), .long (res.2.2.2.2.2.2.2.1), .ref aD_grounds, .ref aD_airs, .ref aD_tolds, .ref aD_fees, .ref aD_lets, .int (res.2.2.2.2.2.2.2.2.2.2.2.2.2.1), .ref aD_kinds, .ref aD_cells, .ref aD_selves, .ref aD_cries, .int (res.2.2.2.2.2.2.2.2.2.2.2.2.2.2.2.2.2.2.1), .ref aD_parts, .int (res.2.2.2.2.2.2.2.2.2.2.2.2.2.2.2.2.2.2.2.2.1), .ref aD_past])), (aD_grounds, .inl (gJ G, 3, .inr (.inl (res.2.2.2.2.2.2.2.2.1)))), (aD_airs, .inl (gJ G, 6, .inr (.inl (res.2.2.2.2.2.2.2.2.2.1)))), (aD_tolds, .inl (gJ G, 3, .inr (.inl (res.2.2.2.2.2.2.2.2.2.2.1)))), (aD_fees, .inl (gI G, 6, .inl (res.2.2.2.2.2.2.2.2.2.2.2.1))), (aD_lets, .inl (gI G, 6, .inl (res.2.2.2.2.2.2.2.2.2.2.2.2.1))), (aD_kinds, .inl (gI G, 6, .inl (res.2.2.2.2.2.2.2.2.2.2.2.2.2.2.1))), (aD_cells, .inl (gI G, 6, .inl (res.2.2.2.2.2.2.2.2.2.2.2.2.2.2.2.1))), (aD_selves, .inl (gI G, 6, .inl (res.2.2.2.2.2.2.2.2.2.2.2.2.2.2.2.2.1))), (aD_cries, .inl (gI G, 6, .inl (res.2.2.2.2.2.2.2.2.2.2.2.2.2.2.2.2.2.1))), (aD_parts, .inl (gI G, 40, .inl (res.2.2.2.2.2.2.2.2.2.2.2.2.2.2.2.2.2.2.2.1))), (aR, .inr (1, [.ref aR_text, .int R_length, .ref aD, .int (res.2.2.2.2.2.2.2.2.2.2.2.2.2.2.2.2.2.2.2.2.2.1), .int (res.2.2.2.2.2.2.2.2.2.2.2.2.2.2.2.2.2.2.2.2.2.2.1), .int (res.2.2.2.2.2.2.2.2.2.2.2.2.2.2.2.2.2.2.2.2.2.2.2.1), .ref aR_numbers])), (aR_text, .inl (gB G, 150, .inl R_text)), (aR_numbers, .inl (gI G, 5, .inl (res.2.2.2.2.2.2.2.2.2.2.2.2.2.2.2.2.2.2.2.2.2.2.2.2)))] := by
  refine Ct.mk (by decide) (Nat.le_of_ble_eq_true rfl) ?_
  intro p e s m args below meth c ls A Q C hE hW hl hQ
  have C : Cx p s args m c meth "LentAir" y_Ai_read b_Ai_read 3 (some .int) := C
  have hl : lv_has ls 3 [(0, .ref aA)] := hl
  unfold f_Ai_read at h
  refine lv_aload_n C.1.1 C.1.2.1 d_Ai_read_0 rfl (lv_at hl 0 rfl) ?_
  refine x_get C hE hW fl_Ai_39 0 rfl rfl d_Ai_read_1 ?_
  refine lv_aload_n C.1.1 C.1.2.1 d_Ai_read_4 rfl (lv_at hl 0 rfl) ?_
  refine x_get C hE hW fl_Ai_16 0 rfl rfl d_Ai_read_5 ?_
  obtain ⟨⟨x1, x2, x3, x4, x5, x6, x7, x8, x9, x10, x11, x12, x13, x14, x15, x16, x17, x18, x19, x20, x21, x22, x23⟩, hc24, h⟩ := bd_at h
  refine x_callV (ws' := [(aA, .inr (3, [.ref aN, .ref aD, .ref aA_images, .ref aA_kept, .ref A_sound, .ref aR, .ref aA_refused, .ref aA_heardBy])), (aD, .inr (0, [.int x2, .int x3, .long x4, .long x5, .long x6, .ref aD_grounds, .ref aD_airs, .ref aD_tolds, .ref aD_fees, .ref aD_lets, .int x12, .ref aD_kinds, .ref aD_cells, .ref aD_selves, .ref aD_cries, .int x17, .ref aD_parts, .int x19, .ref aD_past])), (aD_grounds, .inl (gJ G, 3, .inr (.inl x7))), (aD_airs, .inl (gJ G, 6, .inr (.inl x8))), (aD_tolds, .inl (gJ G, 3, .inr (.inl x9))), (aD_fees, .inl (gI G, 6, .inl x10)), (aD_lets, .inl (gI G, 6, .inl x11)), (aD_kinds, .inl (gI G, 6, .inl x13)), (aD_cells, .inl (gI G, 6, .inl x14)), (aD_selves, .inl (gI G, 6, .inl x15)), (aD_cries, .inl (gI G, 6, .inl x16)), (aD_parts, .inl (gI G, 40, .inl x18)), (aR, .inr (1, [.ref aR_text, .int R_length, .ref aD, .int x20, .int x21, .int x22, .ref aR_numbers])), (aR_text, .inl (gB G, 150, .inl R_text)), (aR_numbers, .inl (gI G, 5, .inl x23))]) (stk := [.int x1]) (rest := []) (As := [.ref aD]) (q0 := 12) C hE hW (c_Rd_readInto l G aD aD_grounds aD_airs aD_tolds aD_fees aD_lets aD_kinds aD_cells aD_selves aD_cries aD_parts aD_past aR aR_text aR_numbers D_width D_height D_everywhere D_firstColumn D_lastColumn D_makers D_leaves D_pasts R_length R_land R_place R_end R_token D_grounds D_airs D_tolds D_fees D_lets D_kinds D_cells D_selves D_cries D_parts R_text R_numbers hc24) cv_Rd_readInto tw427 hl rfl rfl (Nat.le_of_ble_eq_true rfl) rfl rfl rfl ⟨Nat.le_of_ble_eq_true rfl, Nat.le_of_ble_eq_true rfl⟩ ⟨Nat.zero_le _, Nat.zero_le _⟩ [1, 2, 3, 4, 5, 6, 7, 8, 9, 10, 11, 12, 13, 14] [0] [0, 1, 2, 3, 4, 5, 6, 7, 8, 9, 10, 11, 12, 13, 14] rfl rfl rfl (by decide) rfl rfl rfl rfl d_Ai_read_8 (fun H locs hW => ?_)
  refine lv_istore_n (lv' := [(1, .int x1), (0, .ref aA)]) C.1.1 C.1.2.1 d_Ai_read_11 rfl hl (by decide) rfl (fun ls hl => ?_)
  refine lv_iload_n C.1.1 C.1.2.1 d_Ai_read_12 rfl (lv_at hl 0 rfl) ?_
  refine lv_if_le (tgt := 34) C.1.1 C.1.2.1 d_Ai_read_13 (by decide) (fun cc => ?_) (fun cc => ?_)
  · replace h := it_t cc h
    refine lv_iload_n C.1.1 C.1.2.1 d_Ai_read_34 rfl (lv_at hl 0 rfl) ?_
    obtain rfl := Option.some.inj h
    exact x_iret C hW rfl rfl hQ d_Ai_read_35
  · replace h := it_f cc h
    refine lv_aload_n C.1.1 C.1.2.1 d_Ai_read_16 rfl (lv_at hl 1 rfl) ?_
    refine x_get C hE hW fl_Ai_12 0 rfl rfl d_Ai_read_17 ?_
    refine lv_astore_n (lv' := [(2, .ref aN), (1, .int x1), (0, .ref aA)]) C.1.1 C.1.2.1 d_Ai_read_20 rfl hl (by decide) rfl (fun ls hl => ?_)
    refine lv_aload_n C.1.1 C.1.2.1 d_Ai_read_21 rfl (lv_at hl 2 rfl) ?_
    refine lv_aload_n C.1.1 C.1.2.1 d_Ai_read_22 rfl (lv_at hl 2 rfl) ?_
    refine x_get C hE hW fl_Ai_16 0 rfl rfl d_Ai_read_23 ?_
    refine x_put (ws' := [(aA, .inr (3, [.ref aD, .ref aD, .ref aA_images, .ref aA_kept, .ref A_sound, .ref aR, .ref aA_refused, .ref aA_heardBy])), (aD, .inr (0, [.int x2, .int x3, .long x4, .long x5, .long x6, .ref aD_grounds, .ref aD_airs, .ref aD_tolds, .ref aD_fees, .ref aD_lets, .int x12, .ref aD_kinds, .ref aD_cells, .ref aD_selves, .ref aD_cries, .int x17, .ref aD_parts, .int x19, .ref aD_past])), (aD_grounds, .inl (gJ G, 3, .inr (.inl x7))), (aD_airs, .inl (gJ G, 6, .inr (.inl x8))), (aD_tolds, .inl (gJ G, 3, .inr (.inl x9))), (aD_fees, .inl (gI G, 6, .inl x10)), (aD_lets, .inl (gI G, 6, .inl x11)), (aD_kinds, .inl (gI G, 6, .inl x13)), (aD_cells, .inl (gI G, 6, .inl x14)), (aD_selves, .inl (gI G, 6, .inl x15)), (aD_cries, .inl (gI G, 6, .inl x16)), (aD_parts, .inl (gI G, 40, .inl x18)), (aR, .inr (1, [.ref aR_text, .int R_length, .ref aD, .int x20, .int x21, .int x22, .ref aR_numbers])), (aR_text, .inl (gB G, 150, .inl R_text)), (aR_numbers, .inl (gI G, 5, .inl x23))]) C hE hW fp_Ai_12 0 rfl rfl rfl (Nat.le_of_ble_eq_true rfl) rfl d_Ai_read_26 (fun H locs hW => ?_)
    refine lv_aload_n C.1.1 C.1.2.1 d_Ai_read_29 rfl (lv_at hl 2 rfl) ?_
    refine lv_aload_n C.1.1 C.1.2.1 d_Ai_read_30 rfl (lv_at hl 0 rfl) ?_
    refine x_put (ws' := [(aA, .inr (3, [.ref aD, .ref aN, .ref aA_images, .ref aA_kept, .ref A_sound, .ref aR, .ref aA_refused, .ref aA_heardBy])), (aD, .inr (0, [.int x2, .int x3, .long x4, .long x5, .long x6, .ref aD_grounds, .ref aD_airs, .ref aD_tolds, .ref aD_fees, .ref aD_lets, .int x12, .ref aD_kinds, .ref aD_cells, .ref aD_selves, .ref aD_cries, .int x17, .ref aD_parts, .int x19, .ref aD_past])), (aD_grounds, .inl (gJ G, 3, .inr (.inl x7))), (aD_airs, .inl (gJ G, 6, .inr (.inl x8))), (aD_tolds, .inl (gJ G, 3, .inr (.inl x9))), (aD_fees, .inl (gI G, 6, .inl x10)), (aD_lets, .inl (gI G, 6, .inl x11)), (aD_kinds, .inl (gI G, 6, .inl x13)), (aD_cells, .inl (gI G, 6, .inl x14)), (aD_selves, .inl (gI G, 6, .inl x15)), (aD_cries, .inl (gI G, 6, .inl x16)), (aD_parts, .inl (gI G, 40, .inl x18)), (aR, .inr (1, [.ref aR_text, .int R_length, .ref aD, .int x20, .int x21, .int x22, .ref aR_numbers])), (aR_text, .inl (gB G, 150, .inl R_text)), (aR_numbers, .inl (gI G, 5, .inl x23))]) C hE hW fp_Ai_16 0 rfl rfl rfl (Nat.le_of_ble_eq_true rfl) rfl d_Ai_read_31 (fun H locs hW => ?_)
    refine lv_iload_n C.1.1 C.1.2.1 d_Ai_read_34 rfl (lv_at hl 1 rfl) ?_
    obtain rfl := Option.some.inj h
    exact x_iret C hW rfl rfl hQ d_Ai_read_35
set_option maxHeartbeats 4000000 in
set_option maxRecDepth 100000 in
theorem c_Ai_isSound (l : Launch) (G : Gl) (aA : Nat) (aA_images : Nat) (aA_kept : Nat) (aA_refused : Nat) (aA_heardBy : Nat) (aN : Nat) (aN_grounds : Nat) (aN_airs : Nat) (aN_tolds : Nat) (aN_fees : Nat) (aN_lets : Nat) (aN_kinds : Nat) (aN_cells : Nat) (aN_selves : Nat) (aN_cries : Nat) (aN_parts : Nat) (aN_past : Nat) (A_draft : Nat) (A_sound : Nat) (A_reader : Nat) (N_width : Int32) (N_height : Int32) (N_everywhere : Int64) (N_firstColumn : Int64) (N_lastColumn : Int64) (N_makers : Int32) (N_leaves : Int32) (N_pasts : Int32) (p1 : Int32) (p2 : Int32) (p3 : Int32) {res : Int32} (h : f_Ai_isSound N_makers p1 p2 p3 = some res) : Ct l y_Ai_isSound b_Ai_isSound 4 (some .boolean) 1 21 G [.ref aA, .int p1, .int p2, .int p3] [(aA, .inr (3, [.ref aN, .ref A_draft, .ref aA_images, .ref aA_kept, .ref A_sound, .ref A_reader, .ref aA_refused, .ref aA_heardBy])), (aN, .inr (0, [.int N_width, .int N_height, .long N_everywhere, .long N_firstColumn, .long N_lastColumn, .ref aN_grounds, .ref aN_airs, .ref aN_tolds, .ref aN_fees, .ref aN_lets, .int N_makers, .ref aN_kinds, .ref aN_cells, .ref aN_selves, .ref aN_cries, .int N_leaves, .ref aN_parts, .int N_pasts, .ref aN_past]))] (some (.int res)) [(aA, .inr (3, [.ref aN, .ref A_draft, .ref aA_images, .ref aA_kept, .ref A_sound, .ref A_reader, .ref aA_refused, .ref aA_heardBy])), (aN, .inr (0, [.int N_width, .int N_height, .long N_everywhere, .long N_firstColumn, .long N_lastColumn, .ref aN_grounds, .ref aN_airs, .ref aN_tolds, .ref aN_fees, .ref aN_lets, .int N_makers, .ref aN_kinds, .ref aN_cells, .ref aN_selves, .ref aN_cries, .int N_leaves, .ref aN_parts, .int N_pasts, .ref aN_past]))] := by
  refine Ct.mk (by decide) (Nat.le_of_ble_eq_true rfl) ?_
  intro p e s m args below meth c ls A Q C hE hW hl hQ
  have C : Cx p s args m c meth "LentAir" y_Ai_isSound b_Ai_isSound 4 (some .boolean) := C
  have hl : lv_has ls 4 [(0, .ref aA), (1, .int p1), (2, .int p2), (3, .int p3)] := hl
  unfold f_Ai_isSound at h
  refine lv_aload_n C.1.1 C.1.2.1 d_Ai_isSound_0 rfl (lv_at hl 0 rfl) ?_
  refine lv_iload_n C.1.1 C.1.2.1 d_Ai_isSound_1 rfl (lv_at hl 1 rfl) ?_
  obtain ⟨x1, hc2, h⟩ := bd_at h
  refine x_callV (ws' := [(aA, .inr (3, [.ref aN, .ref A_draft, .ref aA_images, .ref aA_kept, .ref A_sound, .ref A_reader, .ref aA_refused, .ref aA_heardBy])), (aN, .inr (0, [.int N_width, .int N_height, .long N_everywhere, .long N_firstColumn, .long N_lastColumn, .ref aN_grounds, .ref aN_airs, .ref aN_tolds, .ref aN_fees, .ref aN_lets, .int N_makers, .ref aN_kinds, .ref aN_cells, .ref aN_selves, .ref aN_cries, .int N_leaves, .ref aN_parts, .int N_pasts, .ref aN_past]))]) (stk := [.int x1]) (rest := []) (As := [.int p1]) (q0 := 0) C hE hW (c_Ai_isMaker l G aA aA_images aA_kept aA_refused aA_heardBy aN aN_grounds aN_airs aN_tolds aN_fees aN_lets aN_kinds aN_cells aN_selves aN_cries aN_parts aN_past A_draft A_sound A_reader N_width N_height N_everywhere N_firstColumn N_lastColumn N_makers N_leaves N_pasts p1 hc2) cv_Ai_isMaker tw358 hl rfl rfl (Nat.le_of_ble_eq_true rfl) rfl rfl rfl ⟨Nat.le_of_ble_eq_true rfl, Nat.le_of_ble_eq_true rfl⟩ ⟨Nat.zero_le _, Nat.zero_le _⟩ [0, 1] [] [0, 1] rfl rfl rfl (by decide) rfl rfl rfl rfl d_Ai_isSound_2 (fun H locs hW => ?_)
  refine lv_if_eq (tgt := 26) C.1.1 C.1.2.1 d_Ai_isSound_5 (by decide) (fun cc => ?_) (fun cc => ?_)
  · replace h := it_t cc h
    refine lv_iconst (v := 0) C.1.1 C.1.2.1 d_Ai_isSound_26 (by decide) ?_
    obtain rfl := Option.some.inj h
    exact x_zret C hW rfl rfl rfl hQ d_Ai_isSound_27
  · replace h := it_f cc h
    refine lv_iload_n C.1.1 C.1.2.1 d_Ai_isSound_8 rfl (lv_at hl 2 rfl) ?_
    obtain ⟨x3, hc4, h⟩ := bd_at h
    refine x_callS (ws' := [(aA, .inr (3, [.ref aN, .ref A_draft, .ref aA_images, .ref aA_kept, .ref A_sound, .ref A_reader, .ref aA_refused, .ref aA_heardBy])), (aN, .inr (0, [.int N_width, .int N_height, .long N_everywhere, .long N_firstColumn, .long N_lastColumn, .ref aN_grounds, .ref aN_airs, .ref aN_tolds, .ref aN_fees, .ref aN_lets, .int N_makers, .ref aN_kinds, .ref aN_cells, .ref aN_selves, .ref aN_cries, .int N_leaves, .ref aN_parts, .int N_pasts, .ref aN_past]))]) (stk := [.int x3]) (rest := []) (As := [.int p2]) C hE hW (c_Ai_isLoud l G p2 hc4) cv_Ai_isLoud tw365 hl rfl rfl (Nat.le_of_ble_eq_true rfl) ⟨Nat.le_of_ble_eq_true rfl, Nat.le_of_ble_eq_true rfl⟩ ⟨Nat.zero_le _, Nat.zero_le _⟩ [] [0, 1] [0, 1] rfl rfl rfl (by decide) rfl rfl rfl rfl d_Ai_isSound_9 (fun H locs hW => ?_)
    refine lv_if_eq (tgt := 26) C.1.1 C.1.2.1 d_Ai_isSound_12 (by decide) (fun cc => ?_) (fun cc => ?_)
    · replace h := it_t cc h
      refine lv_iconst (v := 0) C.1.1 C.1.2.1 d_Ai_isSound_26 (by decide) ?_
      obtain rfl := Option.some.inj h
      exact x_zret C hW rfl rfl rfl hQ d_Ai_isSound_27
    · replace h := it_f cc h
      refine lv_iload_n C.1.1 C.1.2.1 d_Ai_isSound_15 rfl (lv_at hl 3 rfl) ?_
      obtain ⟨x5, hc6, h⟩ := bd_at h
      refine x_callS (ws' := [(aA, .inr (3, [.ref aN, .ref A_draft, .ref aA_images, .ref aA_kept, .ref A_sound, .ref A_reader, .ref aA_refused, .ref aA_heardBy])), (aN, .inr (0, [.int N_width, .int N_height, .long N_everywhere, .long N_firstColumn, .long N_lastColumn, .ref aN_grounds, .ref aN_airs, .ref aN_tolds, .ref aN_fees, .ref aN_lets, .int N_makers, .ref aN_kinds, .ref aN_cells, .ref aN_selves, .ref aN_cries, .int N_leaves, .ref aN_parts, .int N_pasts, .ref aN_past]))]) (stk := [.int x5]) (rest := []) (As := [.int p3]) C hE hW (c_Ai_isHour l G p3 hc6) cv_Ai_isHour tw362 hl rfl rfl (Nat.le_of_ble_eq_true rfl) ⟨Nat.le_of_ble_eq_true rfl, Nat.le_of_ble_eq_true rfl⟩ ⟨Nat.zero_le _, Nat.zero_le _⟩ [] [0, 1] [0, 1] rfl rfl rfl (by decide) rfl rfl rfl rfl d_Ai_isSound_16 (fun H locs hW => ?_)
      refine lv_if_eq (tgt := 26) C.1.1 C.1.2.1 d_Ai_isSound_19 (by decide) (fun cc => ?_) (fun cc => ?_)
      · replace h := it_t cc h
        refine lv_iconst (v := 0) C.1.1 C.1.2.1 d_Ai_isSound_26 (by decide) ?_
        obtain rfl := Option.some.inj h
        exact x_zret C hW rfl rfl rfl hQ d_Ai_isSound_27
      · replace h := it_f cc h
        refine lv_iconst (v := 1) C.1.1 C.1.2.1 d_Ai_isSound_22 (by decide) ?_
        refine lv_goto (tgt := 27) C.1.1 C.1.2.1 d_Ai_isSound_23 (by decide) ?_
        obtain rfl := Option.some.inj h
        exact x_zret C hW rfl rfl rfl hQ d_Ai_isSound_27
set_option maxHeartbeats 4000000 in
set_option maxRecDepth 100000 in
theorem c_Ai_makeSound (l : Launch) (G : Gl) (aA : Nat) (aA_images : Nat) (aA_kept : Nat) (aA_refused : Nat) (aA_heardBy : Nat) (aN : Nat) (aN_grounds : Nat) (aN_airs : Nat) (aN_tolds : Nat) (aN_fees : Nat) (aN_lets : Nat) (aN_kinds : Nat) (aN_cells : Nat) (aN_selves : Nat) (aN_cries : Nat) (aN_parts : Nat) (aN_past : Nat) (aS : Nat) (aS_may : Nat) (aS_ways : Nat) (aS_echo : Nat) (aS_echoes : Nat) (A_draft : Nat) (A_reader : Nat) (N_width : Int32) (N_height : Int32) (N_everywhere : Int64) (N_firstColumn : Int64) (N_lastColumn : Int64) (N_makers : Int32) (N_leaves : Int32) (N_pasts : Int32) (S_land : Nat) (S_maker : Int32) (S_loud : Int32) (S_hour : Int32) (S_bought : Int32) (S_gone : Int32) (S_straight : Int64) (S_all : Int64) (N_grounds : Nat → Int64) (N_airs : Nat → Int64) (N_kinds : Nat → Int32) (N_cells : Nat → Int32) (N_selves : Nat → Int32) (N_parts : Nat → Int32) (S_may : Nat → Int64) (S_ways : Nat → Int64) (S_echo : Nat → Int64) (S_echoes : Nat → Int64) (p1 : Int32) (p2 : Int32) (p3 : Int32) {res : Int32 × Int32 × Int32 × Int32 × Int32 × (Nat → Int64) × (Nat → Int64) × (Nat → Int64) × (Nat → Int64) × Int64 × Int64} (h : f_Ai_makeSound N_width N_everywhere N_firstColumn N_lastColumn N_makers N_leaves N_grounds N_airs N_kinds N_cells N_selves N_parts S_may S_ways S_echo S_echoes p1 p2 p3 = some res) : Ct l y_Ai_makeSound b_Ai_makeSound 4 none 5 129 G [.ref aA, .int p1, .int p2, .int p3] [(aA, .inr (3, [.ref aN, .ref A_draft, .ref aA_images, .ref aA_kept, .ref aS, .ref A_reader, .ref aA_refused, .ref aA_heardBy])), (aN, .inr (0, [.int N_width, .int N_height, .long N_everywhere, .long N_firstColumn, .long N_lastColumn, .ref aN_grounds, .ref aN_airs, .ref aN_tolds, .ref aN_fees, .ref aN_lets, .int N_makers, .ref aN_kinds, .ref aN_cells, .ref aN_selves, .ref aN_cries, .int N_leaves, .ref aN_parts, .int N_pasts, .ref aN_past])), (aN_grounds, .inl (gJ G, 3, .inr (.inl N_grounds))), (aN_airs, .inl (gJ G, 6, .inr (.inl N_airs))), (aN_kinds, .inl (gI G, 6, .inl N_kinds)), (aN_cells, .inl (gI G, 6, .inl N_cells)), (aN_selves, .inl (gI G, 6, .inl N_selves)), (aN_parts, .inl (gI G, 40, .inl N_parts)), (aS, .inr (2, [.ref S_land, .int S_maker, .int S_loud, .int S_hour, .int S_bought, .int S_gone, .ref aS_may, .ref aS_ways, .ref aS_echo, .ref aS_echoes, .long S_straight, .long S_all])), (aS_may, .inl (gJ G, 21, .inr (.inl S_may))), (aS_ways, .inl (gJ G, 21, .inr (.inl S_ways))), (aS_echo, .inl (gJ G, 21, .inr (.inl S_echo))), (aS_echoes, .inl (gJ G, 21, .inr (.inl S_echoes)))] none [(aA, .inr (3, [.ref aN, .ref A_draft, .ref aA_images, .ref aA_kept, .ref aS, .ref A_reader, .ref aA_refused, .ref aA_heardBy])), (aN, .inr (0, [.int N_width, .int N_height, .long N_everywhere, .long N_firstColumn, .long N_lastColumn, .ref aN_grounds, .ref aN_airs, .ref aN_tolds, .ref aN_fees, .ref aN_lets, .int N_makers, .ref aN_kinds, .ref aN_cells, .ref aN_selves, .ref aN_cries, .int N_leaves, .ref aN_parts, .int N_pasts, .ref aN_past])), (aN_grounds, .inl (gJ G, 3, .inr (.inl N_grounds))), (aN_airs, .inl (gJ G, 6, .inr (.inl N_airs))), (aN_kinds, .inl (gI G, 6, .inl N_kinds)), (aN_cells, .inl (gI G, 6, .inl N_cells)), (aN_selves, .inl (gI G, 6, .inl N_selves)), (aN_parts, .inl (gI G, 40, .inl N_parts)), (aS, .inr (2, [.ref aN, .int (res.1), .int (res.2.1), .int (res.2.2.1), .int (res.2.2.2.1), .int (res.2.2.2.2.1), .ref aS_may, .ref aS_ways, .ref aS_echo, .ref aS_echoes, .long (res.2.2.2.2.2.2.2.2.2.1), .long (res.2.2.2.2.2.2.2.2.2.2)])), (aS_may, .inl (gJ G, 21, .inr (.inl (res.2.2.2.2.2.1)))), (aS_ways, .inl (gJ G, 21, .inr (.inl (res.2.2.2.2.2.2.1)))), (aS_echo, .inl (gJ G, 21, .inr (.inl (res.2.2.2.2.2.2.2.1)))), (aS_echoes, .inl (gJ G, 21, .inr (.inl (res.2.2.2.2.2.2.2.2.1))))] := by
  refine Ct.mk (by decide) (Nat.le_of_ble_eq_true rfl) ?_
  intro p e s m args below meth c ls A Q C hE hW hl hQ
  have C : Cx p s args m c meth "LentAir" y_Ai_makeSound b_Ai_makeSound 4 none := C
  have hl : lv_has ls 4 [(0, .ref aA), (1, .int p1), (2, .int p2), (3, .int p3)] := hl
  unfold f_Ai_makeSound at h
  refine lv_aload_n C.1.1 C.1.2.1 d_Ai_makeSound_0 rfl (lv_at hl 0 rfl) ?_
  refine x_get C hE hW fl_Ai_32 0 rfl rfl d_Ai_makeSound_1 ?_
  refine lv_aload_n C.1.1 C.1.2.1 d_Ai_makeSound_4 rfl (lv_at hl 0 rfl) ?_
  refine x_get C hE hW fl_Ai_12 0 rfl rfl d_Ai_makeSound_5 ?_
  refine lv_iload_n C.1.1 C.1.2.1 d_Ai_makeSound_8 rfl (lv_at hl 1 rfl) ?_
  refine lv_iload_n C.1.1 C.1.2.1 d_Ai_makeSound_9 rfl (lv_at hl 2 rfl) ?_
  refine lv_iload_n C.1.1 C.1.2.1 d_Ai_makeSound_10 rfl (lv_at hl 3 rfl) ?_
  refine lv_iconst (v := 0) C.1.1 C.1.2.1 d_Ai_makeSound_11 (by decide) ?_
  refine lv_iconst (v := 0) C.1.1 C.1.2.1 d_Ai_makeSound_12 (by decide) ?_
  obtain ⟨⟨x1, x2, x3, x4, x5, x6, x7, x8, x9, x10, x11⟩, hc12, h⟩ := bd_at h
  refine x_callV (ws' := [(aA, .inr (3, [.ref aN, .ref A_draft, .ref aA_images, .ref aA_kept, .ref aS, .ref A_reader, .ref aA_refused, .ref aA_heardBy])), (aN, .inr (0, [.int N_width, .int N_height, .long N_everywhere, .long N_firstColumn, .long N_lastColumn, .ref aN_grounds, .ref aN_airs, .ref aN_tolds, .ref aN_fees, .ref aN_lets, .int N_makers, .ref aN_kinds, .ref aN_cells, .ref aN_selves, .ref aN_cries, .int N_leaves, .ref aN_parts, .int N_pasts, .ref aN_past])), (aN_grounds, .inl (gJ G, 3, .inr (.inl N_grounds))), (aN_airs, .inl (gJ G, 6, .inr (.inl N_airs))), (aN_kinds, .inl (gI G, 6, .inl N_kinds)), (aN_cells, .inl (gI G, 6, .inl N_cells)), (aN_selves, .inl (gI G, 6, .inl N_selves)), (aN_parts, .inl (gI G, 40, .inl N_parts)), (aS, .inr (2, [.ref aN, .int x1, .int x2, .int x3, .int x4, .int x5, .ref aS_may, .ref aS_ways, .ref aS_echo, .ref aS_echoes, .long x10, .long x11])), (aS_may, .inl (gJ G, 21, .inr (.inl x6))), (aS_ways, .inl (gJ G, 21, .inr (.inl x7))), (aS_echo, .inl (gJ G, 21, .inr (.inl x8))), (aS_echoes, .inl (gJ G, 21, .inr (.inl x9)))]) (stk := []) (rest := []) (As := [.ref aN, .int p1, .int p2, .int p3, .int 0, .int 0]) (q0 := 8) C hE hW (c_Sd_make l G aN aN_grounds aN_airs aN_tolds aN_fees aN_lets aN_kinds aN_cells aN_selves aN_cries aN_parts aN_past aS aS_may aS_ways aS_echo aS_echoes N_width N_height N_everywhere N_firstColumn N_lastColumn N_makers N_leaves N_pasts S_land S_maker S_loud S_hour S_bought S_gone S_straight S_all N_grounds N_airs N_kinds N_cells N_selves N_parts S_may S_ways S_echo S_echoes p1 p2 p3 0 0 hc12) cv_Sd_make tw562 hl rfl rfl (Nat.le_of_ble_eq_true rfl) rfl rfl rfl ⟨Nat.le_of_ble_eq_true rfl, Nat.le_of_ble_eq_true rfl⟩ ⟨Nat.zero_le _, Nat.zero_le _⟩ [1, 2, 3, 4, 5, 6, 7, 8, 9, 10, 11, 12] [0] [0, 1, 2, 3, 4, 5, 6, 7, 8, 9, 10, 11, 12] rfl rfl rfl (by decide) rfl rfl rfl rfl d_Ai_makeSound_13 (fun H locs hW => ?_)
  obtain rfl := Option.some.inj h
  exact x_vret C hW rfl rfl hQ d_Ai_makeSound_16
set_option maxHeartbeats 4000000 in
set_option maxRecDepth 100000 in
theorem c_Ai_heard (l : Launch) (G : Gl) (aA : Nat) (aA_images : Nat) (aA_kept : Nat) (aA_refused : Nat) (aA_heardBy : Nat) (aN : Nat) (aN_grounds : Nat) (aN_airs : Nat) (aN_tolds : Nat) (aN_fees : Nat) (aN_lets : Nat) (aN_kinds : Nat) (aN_cells : Nat) (aN_selves : Nat) (aN_cries : Nat) (aN_parts : Nat) (aN_past : Nat) (aS : Nat) (aS_may : Nat) (aS_ways : Nat) (aS_echo : Nat) (aS_echoes : Nat) (A_draft : Nat) (A_reader : Nat) (N_width : Int32) (N_height : Int32) (N_everywhere : Int64) (N_firstColumn : Int64) (N_lastColumn : Int64) (N_makers : Int32) (N_leaves : Int32) (N_pasts : Int32) (S_land : Nat) (S_maker : Int32) (S_loud : Int32) (S_hour : Int32) (S_bought : Int32) (S_gone : Int32) (S_straight : Int64) (S_all : Int64) (A_refused : Nat → Int32) (N_grounds : Nat → Int64) (N_airs : Nat → Int64) (N_kinds : Nat → Int32) (N_cells : Nat → Int32) (N_selves : Nat → Int32) (N_parts : Nat → Int32) (S_may : Nat → Int64) (S_ways : Nat → Int64) (S_echo : Nat → Int64) (S_echoes : Nat → Int64) (p1 : Int32) (p2 : Int32) (p3 : Int32) (p4 : Int32) {res : Int32 × (Nat → Int32) × Nat × Int32 × Int32 × Int32 × Int32 × Int32 × (Nat → Int64) × (Nat → Int64) × (Nat → Int64) × (Nat → Int64) × Int64 × Int64} (h : f_Ai_heard aN N_width N_height N_everywhere N_firstColumn N_lastColumn N_makers N_leaves S_land S_maker S_loud S_hour S_bought S_gone S_straight S_all A_refused N_grounds N_airs N_kinds N_cells N_selves N_parts S_may S_ways S_echo S_echoes p1 p2 p3 p4 = some res) : Ct l y_Ai_heard b_Ai_heard 5 (some .int) 6 152 G [.ref aA, .int p1, .int p2, .int p3, .int p4] [(aA, .inr (3, [.ref aN, .ref A_draft, .ref aA_images, .ref aA_kept, .ref aS, .ref A_reader, .ref aA_refused, .ref aA_heardBy])), (aA_refused, .inl (gI G, 3, .inl A_refused)), (aN, .inr (0, [.int N_width, .int N_height, .long N_everywhere, .long N_firstColumn, .long N_lastColumn, .ref aN_grounds, .ref aN_airs, .ref aN_tolds, .ref aN_fees, .ref aN_lets, .int N_makers, .ref aN_kinds, .ref aN_cells, .ref aN_selves, .ref aN_cries, .int N_leaves, .ref aN_parts, .int N_pasts, .ref aN_past])), (aN_grounds, .inl (gJ G, 3, .inr (.inl N_grounds))), (aN_airs, .inl (gJ G, 6, .inr (.inl N_airs))), (aN_kinds, .inl (gI G, 6, .inl N_kinds)), (aN_cells, .inl (gI G, 6, .inl N_cells)), (aN_selves, .inl (gI G, 6, .inl N_selves)), (aN_parts, .inl (gI G, 40, .inl N_parts)), (aS, .inr (2, [.ref S_land, .int S_maker, .int S_loud, .int S_hour, .int S_bought, .int S_gone, .ref aS_may, .ref aS_ways, .ref aS_echo, .ref aS_echoes, .long S_straight, .long S_all])), (aS_may, .inl (gJ G, 21, .inr (.inl S_may))), (aS_ways, .inl (gJ G, 21, .inr (.inl S_ways))), (aS_echo, .inl (gJ G, 21, .inr (.inl S_echo))), (aS_echoes, .inl (gJ G, 21, .inr (.inl S_echoes)))] (some (.int res.1)) [(aA, .inr (3, [.ref aN, .ref A_draft, .ref aA_images, .ref aA_kept, .ref aS, .ref A_reader, .ref aA_refused, .ref aA_heardBy])), (aA_refused, .inl (gI G, 3, .inl (res.2.1))), (aN, .inr (0, [.int N_width, .int N_height, .long N_everywhere, .long N_firstColumn, .long N_lastColumn, .ref aN_grounds, .ref aN_airs, .ref aN_tolds, .ref aN_fees, .ref aN_lets, .int N_makers, .ref aN_kinds, .ref aN_cells, .ref aN_selves, .ref aN_cries, .int N_leaves, .ref aN_parts, .int N_pasts, .ref aN_past])), (aN_grounds, .inl (gJ G, 3, .inr (.inl N_grounds))), (aN_airs, .inl (gJ G, 6, .inr (.inl N_airs))), (aN_kinds, .inl (gI G, 6, .inl N_kinds)), (aN_cells, .inl (gI G, 6, .inl N_cells)), (aN_selves, .inl (gI G, 6, .inl N_selves)), (aN_parts, .inl (gI G, 40, .inl N_parts)), (aS, .inr (2, [.ref (res.2.2.1), .int (res.2.2.2.1), .int (res.2.2.2.2.1), .int (res.2.2.2.2.2.1), .int (res.2.2.2.2.2.2.1), .int (res.2.2.2.2.2.2.2.1), .ref aS_may, .ref aS_ways, .ref aS_echo, .ref aS_echoes, .long (res.2.2.2.2.2.2.2.2.2.2.2.2.1), .long (res.2.2.2.2.2.2.2.2.2.2.2.2.2)])), (aS_may, .inl (gJ G, 21, .inr (.inl (res.2.2.2.2.2.2.2.2.1)))), (aS_ways, .inl (gJ G, 21, .inr (.inl (res.2.2.2.2.2.2.2.2.2.1)))), (aS_echo, .inl (gJ G, 21, .inr (.inl (res.2.2.2.2.2.2.2.2.2.2.1)))), (aS_echoes, .inl (gJ G, 21, .inr (.inl (res.2.2.2.2.2.2.2.2.2.2.2.1))))] := by
  refine Ct.mk (by decide) (Nat.le_of_ble_eq_true rfl) ?_
  intro p e s m args below meth c ls A Q C hE hW hl hQ
  have C : Cx p s args m c meth "LentAir" y_Ai_heard b_Ai_heard 5 (some .int) := C
  have hl : lv_has ls 5 [(0, .ref aA), (1, .int p1), (2, .int p2), (3, .int p3), (4, .int p4)] := hl
  unfold f_Ai_heard at h
  refine lv_aload_n C.1.1 C.1.2.1 d_Ai_heard_0 rfl (lv_at hl 0 rfl) ?_
  refine lv_iload_n C.1.1 C.1.2.1 d_Ai_heard_1 rfl (lv_at hl 1 rfl) ?_
  refine lv_iload_n C.1.1 C.1.2.1 d_Ai_heard_2 rfl (lv_at hl 2 rfl) ?_
  refine lv_iload_n C.1.1 C.1.2.1 d_Ai_heard_3 rfl (lv_at hl 3 rfl) ?_
  obtain ⟨x1, hc2, h⟩ := bd_at h
  refine x_callV (ws' := [(aA, .inr (3, [.ref aN, .ref A_draft, .ref aA_images, .ref aA_kept, .ref aS, .ref A_reader, .ref aA_refused, .ref aA_heardBy])), (aA_refused, .inl (gI G, 3, .inl A_refused)), (aN, .inr (0, [.int N_width, .int N_height, .long N_everywhere, .long N_firstColumn, .long N_lastColumn, .ref aN_grounds, .ref aN_airs, .ref aN_tolds, .ref aN_fees, .ref aN_lets, .int N_makers, .ref aN_kinds, .ref aN_cells, .ref aN_selves, .ref aN_cries, .int N_leaves, .ref aN_parts, .int N_pasts, .ref aN_past])), (aN_grounds, .inl (gJ G, 3, .inr (.inl N_grounds))), (aN_airs, .inl (gJ G, 6, .inr (.inl N_airs))), (aN_kinds, .inl (gI G, 6, .inl N_kinds)), (aN_cells, .inl (gI G, 6, .inl N_cells)), (aN_selves, .inl (gI G, 6, .inl N_selves)), (aN_parts, .inl (gI G, 40, .inl N_parts)), (aS, .inr (2, [.ref S_land, .int S_maker, .int S_loud, .int S_hour, .int S_bought, .int S_gone, .ref aS_may, .ref aS_ways, .ref aS_echo, .ref aS_echoes, .long S_straight, .long S_all])), (aS_may, .inl (gJ G, 21, .inr (.inl S_may))), (aS_ways, .inl (gJ G, 21, .inr (.inl S_ways))), (aS_echo, .inl (gJ G, 21, .inr (.inl S_echo))), (aS_echoes, .inl (gJ G, 21, .inr (.inl S_echoes)))]) (stk := [.int x1]) (rest := []) (As := [.int p1, .int p2, .int p3]) (q0 := 0) C hE hW (c_Ai_isSound l G aA aA_images aA_kept aA_refused aA_heardBy aN aN_grounds aN_airs aN_tolds aN_fees aN_lets aN_kinds aN_cells aN_selves aN_cries aN_parts aN_past A_draft aS A_reader N_width N_height N_everywhere N_firstColumn N_lastColumn N_makers N_leaves N_pasts p1 p2 p3 hc2) cv_Ai_isSound tw554 hl rfl rfl (Nat.le_of_ble_eq_true rfl) rfl rfl rfl ⟨Nat.le_of_ble_eq_true rfl, Nat.le_of_ble_eq_true rfl⟩ ⟨Nat.zero_le _, Nat.zero_le _⟩ [0, 2] [1, 3, 4, 5, 6, 7, 8, 9, 10, 11, 12, 13] [12, 0, 13, 1, 2, 3, 4, 5, 6, 7, 8, 9, 10, 11] rfl rfl rfl (by decide) rfl rfl rfl rfl d_Ai_heard_4 (fun H locs hW => ?_)
  refine jn_at (P := fun (_ : Unit) => ∀ (H : Heap) (locs : List Loc) (ls : Array Slot), Wd G A s.heap H locs [(aA, .inr (3, [.ref aN, .ref A_draft, .ref aA_images, .ref aA_kept, .ref aS, .ref A_reader, .ref aA_refused, .ref aA_heardBy])), (aA_refused, .inl (gI G, 3, .inl A_refused)), (aN, .inr (0, [.int N_width, .int N_height, .long N_everywhere, .long N_firstColumn, .long N_lastColumn, .ref aN_grounds, .ref aN_airs, .ref aN_tolds, .ref aN_fees, .ref aN_lets, .int N_makers, .ref aN_kinds, .ref aN_cells, .ref aN_selves, .ref aN_cries, .int N_leaves, .ref aN_parts, .int N_pasts, .ref aN_past])), (aN_grounds, .inl (gJ G, 3, .inr (.inl N_grounds))), (aN_airs, .inl (gJ G, 6, .inr (.inl N_airs))), (aN_kinds, .inl (gI G, 6, .inl N_kinds)), (aN_cells, .inl (gI G, 6, .inl N_cells)), (aN_selves, .inl (gI G, 6, .inl N_selves)), (aN_parts, .inl (gI G, 40, .inl N_parts)), (aS, .inr (2, [.ref S_land, .int S_maker, .int S_loud, .int S_hour, .int S_bought, .int S_gone, .ref aS_may, .ref aS_ways, .ref aS_echo, .ref aS_echoes, .long S_straight, .long S_all])), (aS_may, .inl (gJ G, 21, .inr (.inl S_may))), (aS_ways, .inl (gJ G, 21, .inr (.inl S_ways))), (aS_echo, .inl (gJ G, 21, .inr (.inl S_echo))), (aS_echoes, .inl (gJ G, 21, .inr (.inl S_echoes)))] → lv_has ls 5 [(0, .ref aA)] → W p l e (RM 6 152) s m args below meth c H locs 0 0 Q (F0 m 19 ls [])) h ?_ ?_
  · skip
    intro _ h
    intro H locs ls hW hl
    refine lv_aload_n C.1.1 C.1.2.1 d_Ai_heard_19 rfl (lv_at hl 0 rfl) ?_
    refine lv_bipush (v := (-2)) C.1.1 C.1.2.1 d_Ai_heard_20 (by decide) ?_
    obtain ⟨⟨x3, x4⟩, hc5, h⟩ := bd_at h
    refine x_callV (ws' := [(aA, .inr (3, [.ref aN, .ref A_draft, .ref aA_images, .ref aA_kept, .ref aS, .ref A_reader, .ref aA_refused, .ref aA_heardBy])), (aA_refused, .inl (gI G, 3, .inl x4)), (aN, .inr (0, [.int N_width, .int N_height, .long N_everywhere, .long N_firstColumn, .long N_lastColumn, .ref aN_grounds, .ref aN_airs, .ref aN_tolds, .ref aN_fees, .ref aN_lets, .int N_makers, .ref aN_kinds, .ref aN_cells, .ref aN_selves, .ref aN_cries, .int N_leaves, .ref aN_parts, .int N_pasts, .ref aN_past])), (aN_grounds, .inl (gJ G, 3, .inr (.inl N_grounds))), (aN_airs, .inl (gJ G, 6, .inr (.inl N_airs))), (aN_kinds, .inl (gI G, 6, .inl N_kinds)), (aN_cells, .inl (gI G, 6, .inl N_cells)), (aN_selves, .inl (gI G, 6, .inl N_selves)), (aN_parts, .inl (gI G, 40, .inl N_parts)), (aS, .inr (2, [.ref S_land, .int S_maker, .int S_loud, .int S_hour, .int S_bought, .int S_gone, .ref aS_may, .ref aS_ways, .ref aS_echo, .ref aS_echoes, .long S_straight, .long S_all])), (aS_may, .inl (gJ G, 21, .inr (.inl S_may))), (aS_ways, .inl (gJ G, 21, .inr (.inl S_ways))), (aS_echo, .inl (gJ G, 21, .inr (.inl S_echo))), (aS_echoes, .inl (gJ G, 21, .inr (.inl S_echoes)))]) (stk := [.int x3]) (rest := []) (As := [.int (-2)]) (q0 := 0) C hE hW (c_Ai_refuse l G aA aA_images aA_kept aA_refused aA_heardBy aN A_draft aS A_reader A_refused (-2) hc5) cv_Ai_refuse tw308 hl rfl rfl (Nat.le_of_ble_eq_true rfl) rfl rfl rfl ⟨Nat.le_of_ble_eq_true rfl, Nat.le_of_ble_eq_true rfl⟩ ⟨Nat.zero_le _, Nat.zero_le _⟩ [0, 1] [2, 3, 4, 5, 6, 7, 8, 9, 10, 11, 12, 13] [12, 13, 0, 1, 2, 3, 4, 5, 6, 7, 8, 9, 10, 11] rfl rfl rfl (by decide) rfl rfl rfl rfl d_Ai_heard_22 (fun H locs hW => ?_)
    obtain rfl := Option.some.inj h
    exact x_iret C hW rfl rfl hQ d_Ai_heard_25
  · intro J19 hJ19 h
    refine lv_if_eq (tgt := 19) C.1.1 C.1.2.1 d_Ai_heard_7 (by decide) (fun cc => ?_) (fun cc => ?_)
    · replace h := it_t cc h
      exact hJ19 _ h _ _ _ hW (lv_sub hl [0] rfl)
    · replace h := it_f cc h
      refine lv_aload_n C.1.1 C.1.2.1 d_Ai_heard_10 rfl (lv_at hl 0 rfl) ?_
      refine lv_iload C.1.1 C.1.2.1 d_Ai_heard_11 (lv_at hl 4 rfl) ?_
      obtain ⟨x6, hc7, h⟩ := bd_at h
      refine x_callV (ws' := [(aA, .inr (3, [.ref aN, .ref A_draft, .ref aA_images, .ref aA_kept, .ref aS, .ref A_reader, .ref aA_refused, .ref aA_heardBy])), (aA_refused, .inl (gI G, 3, .inl A_refused)), (aN, .inr (0, [.int N_width, .int N_height, .long N_everywhere, .long N_firstColumn, .long N_lastColumn, .ref aN_grounds, .ref aN_airs, .ref aN_tolds, .ref aN_fees, .ref aN_lets, .int N_makers, .ref aN_kinds, .ref aN_cells, .ref aN_selves, .ref aN_cries, .int N_leaves, .ref aN_parts, .int N_pasts, .ref aN_past])), (aN_grounds, .inl (gJ G, 3, .inr (.inl N_grounds))), (aN_airs, .inl (gJ G, 6, .inr (.inl N_airs))), (aN_kinds, .inl (gI G, 6, .inl N_kinds)), (aN_cells, .inl (gI G, 6, .inl N_cells)), (aN_selves, .inl (gI G, 6, .inl N_selves)), (aN_parts, .inl (gI G, 40, .inl N_parts)), (aS, .inr (2, [.ref S_land, .int S_maker, .int S_loud, .int S_hour, .int S_bought, .int S_gone, .ref aS_may, .ref aS_ways, .ref aS_echo, .ref aS_echoes, .long S_straight, .long S_all])), (aS_may, .inl (gJ G, 21, .inr (.inl S_may))), (aS_ways, .inl (gJ G, 21, .inr (.inl S_ways))), (aS_echo, .inl (gJ G, 21, .inr (.inl S_echo))), (aS_echoes, .inl (gJ G, 21, .inr (.inl S_echoes)))]) (stk := [.int x6]) (rest := []) (As := [.int p4]) (q0 := 0) C hE hW (c_Ai_isCell l G aA aA_images aA_kept aA_refused aA_heardBy aN aN_grounds aN_airs aN_tolds aN_fees aN_lets aN_kinds aN_cells aN_selves aN_cries aN_parts aN_past A_draft aS A_reader N_width N_height N_everywhere N_firstColumn N_lastColumn N_makers N_leaves N_pasts p4 hc7) cv_Ai_isCell tw321 hl rfl rfl (Nat.le_of_ble_eq_true rfl) rfl rfl rfl ⟨Nat.le_of_ble_eq_true rfl, Nat.le_of_ble_eq_true rfl⟩ ⟨Nat.zero_le _, Nat.zero_le _⟩ [0, 2] [1, 3, 4, 5, 6, 7, 8, 9, 10, 11, 12, 13] [12, 0, 13, 1, 2, 3, 4, 5, 6, 7, 8, 9, 10, 11] rfl rfl rfl (by decide) rfl rfl rfl rfl d_Ai_heard_13 (fun H locs hW => ?_)
      refine lv_if_ne (tgt := 26) C.1.1 C.1.2.1 d_Ai_heard_16 (by decide) (fun cc => ?_) (fun cc => ?_)
      · replace h := it_f cc h
        refine lv_aload_n C.1.1 C.1.2.1 d_Ai_heard_26 rfl (lv_at hl 0 rfl) ?_
        refine lv_iload_n C.1.1 C.1.2.1 d_Ai_heard_27 rfl (lv_at hl 1 rfl) ?_
        refine lv_iload_n C.1.1 C.1.2.1 d_Ai_heard_28 rfl (lv_at hl 2 rfl) ?_
        refine lv_iload_n C.1.1 C.1.2.1 d_Ai_heard_29 rfl (lv_at hl 3 rfl) ?_
        obtain ⟨⟨x8, x9, x10, x11, x12, x13, x14, x15, x16, x17, x18⟩, hc19, h⟩ := bd_at h
        refine x_callV (ws' := [(aA, .inr (3, [.ref aN, .ref A_draft, .ref aA_images, .ref aA_kept, .ref aS, .ref A_reader, .ref aA_refused, .ref aA_heardBy])), (aA_refused, .inl (gI G, 3, .inl A_refused)), (aN, .inr (0, [.int N_width, .int N_height, .long N_everywhere, .long N_firstColumn, .long N_lastColumn, .ref aN_grounds, .ref aN_airs, .ref aN_tolds, .ref aN_fees, .ref aN_lets, .int N_makers, .ref aN_kinds, .ref aN_cells, .ref aN_selves, .ref aN_cries, .int N_leaves, .ref aN_parts, .int N_pasts, .ref aN_past])), (aN_grounds, .inl (gJ G, 3, .inr (.inl N_grounds))), (aN_airs, .inl (gJ G, 6, .inr (.inl N_airs))), (aN_kinds, .inl (gI G, 6, .inl N_kinds)), (aN_cells, .inl (gI G, 6, .inl N_cells)), (aN_selves, .inl (gI G, 6, .inl N_selves)), (aN_parts, .inl (gI G, 40, .inl N_parts)), (aS, .inr (2, [.ref aN, .int x8, .int x9, .int x10, .int x11, .int x12, .ref aS_may, .ref aS_ways, .ref aS_echo, .ref aS_echoes, .long x17, .long x18])), (aS_may, .inl (gJ G, 21, .inr (.inl x13))), (aS_ways, .inl (gJ G, 21, .inr (.inl x14))), (aS_echo, .inl (gJ G, 21, .inr (.inl x15))), (aS_echoes, .inl (gJ G, 21, .inr (.inl x16)))]) (stk := []) (rest := []) (As := [.int p1, .int p2, .int p3]) (q0 := 0) C hE hW (c_Ai_makeSound l G aA aA_images aA_kept aA_refused aA_heardBy aN aN_grounds aN_airs aN_tolds aN_fees aN_lets aN_kinds aN_cells aN_selves aN_cries aN_parts aN_past aS aS_may aS_ways aS_echo aS_echoes A_draft A_reader N_width N_height N_everywhere N_firstColumn N_lastColumn N_makers N_leaves N_pasts S_land S_maker S_loud S_hour S_bought S_gone S_straight S_all N_grounds N_airs N_kinds N_cells N_selves N_parts S_may S_ways S_echo S_echoes p1 p2 p3 hc19) cv_Ai_makeSound tw558 hl rfl rfl (Nat.le_of_ble_eq_true rfl) rfl rfl rfl ⟨Nat.le_of_ble_eq_true rfl, Nat.le_of_ble_eq_true rfl⟩ ⟨Nat.zero_le _, Nat.zero_le _⟩ [0, 2, 3, 4, 5, 6, 7, 8, 9, 10, 11, 12, 13] [1] [1, 0, 2, 3, 4, 5, 6, 7, 8, 9, 10, 11, 12, 13] rfl rfl rfl (by decide) rfl rfl rfl rfl d_Ai_heard_30 (fun H locs hW => ?_)
        refine lv_aload_n C.1.1 C.1.2.1 d_Ai_heard_33 rfl (lv_at hl 0 rfl) ?_
        refine x_get C hE hW fl_Ai_32 0 rfl rfl d_Ai_heard_34 ?_
        refine lv_iload C.1.1 C.1.2.1 d_Ai_heard_37 (lv_at hl 4 rfl) ?_
        obtain ⟨x20, hc21, h⟩ := bd_at h
        refine x_callV (ws' := [(aA, .inr (3, [.ref aN, .ref A_draft, .ref aA_images, .ref aA_kept, .ref aS, .ref A_reader, .ref aA_refused, .ref aA_heardBy])), (aA_refused, .inl (gI G, 3, .inl A_refused)), (aN, .inr (0, [.int N_width, .int N_height, .long N_everywhere, .long N_firstColumn, .long N_lastColumn, .ref aN_grounds, .ref aN_airs, .ref aN_tolds, .ref aN_fees, .ref aN_lets, .int N_makers, .ref aN_kinds, .ref aN_cells, .ref aN_selves, .ref aN_cries, .int N_leaves, .ref aN_parts, .int N_pasts, .ref aN_past])), (aN_grounds, .inl (gJ G, 3, .inr (.inl N_grounds))), (aN_airs, .inl (gJ G, 6, .inr (.inl N_airs))), (aN_kinds, .inl (gI G, 6, .inl N_kinds)), (aN_cells, .inl (gI G, 6, .inl N_cells)), (aN_selves, .inl (gI G, 6, .inl N_selves)), (aN_parts, .inl (gI G, 40, .inl N_parts)), (aS, .inr (2, [.ref aN, .int x8, .int x9, .int x10, .int x11, .int x12, .ref aS_may, .ref aS_ways, .ref aS_echo, .ref aS_echoes, .long x17, .long x18])), (aS_may, .inl (gJ G, 21, .inr (.inl x13))), (aS_ways, .inl (gJ G, 21, .inr (.inl x14))), (aS_echo, .inl (gJ G, 21, .inr (.inl x15))), (aS_echoes, .inl (gJ G, 21, .inr (.inl x16)))]) (stk := [.int x20]) (rest := []) (As := [.int p4]) (q0 := 9) C hE hW (c_Sd_loudIn l G aS aS_may aS_ways aS_echo aS_echoes aN x8 x9 x10 x11 x12 x17 x18 x14 x16 p4 hc21) cv_Sd_loudIn tw632 hl rfl rfl (Nat.le_of_ble_eq_true rfl) rfl rfl rfl ⟨Nat.le_of_ble_eq_true rfl, Nat.le_of_ble_eq_true rfl⟩ ⟨Nat.zero_le _, Nat.zero_le _⟩ [9, 11, 13] [0, 1, 2, 3, 4, 5, 6, 7, 8, 10, 12] [0, 1, 2, 3, 4, 5, 6, 7, 8, 11, 9, 12, 10, 13] rfl rfl rfl (by decide) rfl rfl rfl rfl d_Ai_heard_39 (fun H locs hW => ?_)
        obtain rfl := Option.some.inj h
        exact x_iret C hW rfl rfl hQ d_Ai_heard_42
      · replace h := it_t cc h
        exact hJ19 _ h _ _ _ hW (lv_sub hl [0] rfl)
set_option maxHeartbeats 4000000 in
set_option maxRecDepth 100000 in
theorem c_Ai_far (l : Launch) (G : Gl) (aA : Nat) (aA_images : Nat) (aA_kept : Nat) (aA_refused : Nat) (aA_heardBy : Nat) (aN : Nat) (aN_grounds : Nat) (aN_airs : Nat) (aN_tolds : Nat) (aN_fees : Nat) (aN_lets : Nat) (aN_kinds : Nat) (aN_cells : Nat) (aN_selves : Nat) (aN_cries : Nat) (aN_parts : Nat) (aN_past : Nat) (aS : Nat) (aS_may : Nat) (aS_ways : Nat) (aS_echo : Nat) (aS_echoes : Nat) (A_draft : Nat) (A_reader : Nat) (N_width : Int32) (N_height : Int32) (N_everywhere : Int64) (N_firstColumn : Int64) (N_lastColumn : Int64) (N_makers : Int32) (N_leaves : Int32) (N_pasts : Int32) (S_land : Nat) (S_maker : Int32) (S_loud : Int32) (S_hour : Int32) (S_bought : Int32) (S_gone : Int32) (S_straight : Int64) (S_all : Int64) (A_refused : Nat → Int32) (N_grounds : Nat → Int64) (N_airs : Nat → Int64) (N_kinds : Nat → Int32) (N_cells : Nat → Int32) (N_selves : Nat → Int32) (N_parts : Nat → Int32) (S_may : Nat → Int64) (S_ways : Nat → Int64) (S_echo : Nat → Int64) (S_echoes : Nat → Int64) (p1 : Int32) (p2 : Int32) (p3 : Int32) {res : Int32 × (Nat → Int32) × Nat × Int32 × Int32 × Int32 × Int32 × Int32 × (Nat → Int64) × (Nat → Int64) × (Nat → Int64) × (Nat → Int64) × Int64 × Int64} (h : f_Ai_far aN N_width N_everywhere N_firstColumn N_lastColumn N_makers N_leaves S_land S_maker S_loud S_hour S_bought S_gone S_straight S_all A_refused N_grounds N_airs N_kinds N_cells N_selves N_parts S_may S_ways S_echo S_echoes p1 p2 p3 = some res) : Ct l y_Ai_far b_Ai_far 4 (some .int) 6 152 G [.ref aA, .int p1, .int p2, .int p3] [(aA, .inr (3, [.ref aN, .ref A_draft, .ref aA_images, .ref aA_kept, .ref aS, .ref A_reader, .ref aA_refused, .ref aA_heardBy])), (aA_refused, .inl (gI G, 3, .inl A_refused)), (aN, .inr (0, [.int N_width, .int N_height, .long N_everywhere, .long N_firstColumn, .long N_lastColumn, .ref aN_grounds, .ref aN_airs, .ref aN_tolds, .ref aN_fees, .ref aN_lets, .int N_makers, .ref aN_kinds, .ref aN_cells, .ref aN_selves, .ref aN_cries, .int N_leaves, .ref aN_parts, .int N_pasts, .ref aN_past])), (aN_grounds, .inl (gJ G, 3, .inr (.inl N_grounds))), (aN_airs, .inl (gJ G, 6, .inr (.inl N_airs))), (aN_kinds, .inl (gI G, 6, .inl N_kinds)), (aN_cells, .inl (gI G, 6, .inl N_cells)), (aN_selves, .inl (gI G, 6, .inl N_selves)), (aN_parts, .inl (gI G, 40, .inl N_parts)), (aS, .inr (2, [.ref S_land, .int S_maker, .int S_loud, .int S_hour, .int S_bought, .int S_gone, .ref aS_may, .ref aS_ways, .ref aS_echo, .ref aS_echoes, .long S_straight, .long S_all])), (aS_may, .inl (gJ G, 21, .inr (.inl S_may))), (aS_ways, .inl (gJ G, 21, .inr (.inl S_ways))), (aS_echo, .inl (gJ G, 21, .inr (.inl S_echo))), (aS_echoes, .inl (gJ G, 21, .inr (.inl S_echoes)))] (some (.int res.1)) [(aA, .inr (3, [.ref aN, .ref A_draft, .ref aA_images, .ref aA_kept, .ref aS, .ref A_reader, .ref aA_refused, .ref aA_heardBy])), (aA_refused, .inl (gI G, 3, .inl (res.2.1))), (aN, .inr (0, [.int N_width, .int N_height, .long N_everywhere, .long N_firstColumn, .long N_lastColumn, .ref aN_grounds, .ref aN_airs, .ref aN_tolds, .ref aN_fees, .ref aN_lets, .int N_makers, .ref aN_kinds, .ref aN_cells, .ref aN_selves, .ref aN_cries, .int N_leaves, .ref aN_parts, .int N_pasts, .ref aN_past])), (aN_grounds, .inl (gJ G, 3, .inr (.inl N_grounds))), (aN_airs, .inl (gJ G, 6, .inr (.inl N_airs))), (aN_kinds, .inl (gI G, 6, .inl N_kinds)), (aN_cells, .inl (gI G, 6, .inl N_cells)), (aN_selves, .inl (gI G, 6, .inl N_selves)), (aN_parts, .inl (gI G, 40, .inl N_parts)), (aS, .inr (2, [.ref (res.2.2.1), .int (res.2.2.2.1), .int (res.2.2.2.2.1), .int (res.2.2.2.2.2.1), .int (res.2.2.2.2.2.2.1), .int (res.2.2.2.2.2.2.2.1), .ref aS_may, .ref aS_ways, .ref aS_echo, .ref aS_echoes, .long (res.2.2.2.2.2.2.2.2.2.2.2.2.1), .long (res.2.2.2.2.2.2.2.2.2.2.2.2.2)])), (aS_may, .inl (gJ G, 21, .inr (.inl (res.2.2.2.2.2.2.2.2.1)))), (aS_ways, .inl (gJ G, 21, .inr (.inl (res.2.2.2.2.2.2.2.2.2.1)))), (aS_echo, .inl (gJ G, 21, .inr (.inl (res.2.2.2.2.2.2.2.2.2.2.1)))), (aS_echoes, .inl (gJ G, 21, .inr (.inl (res.2.2.2.2.2.2.2.2.2.2.2.1))))] := by
  refine Ct.mk (by decide) (Nat.le_of_ble_eq_true rfl) ?_
  intro p e s m args below meth c ls A Q C hE hW hl hQ
  have C : Cx p s args m c meth "LentAir" y_Ai_far b_Ai_far 4 (some .int) := C
  have hl : lv_has ls 4 [(0, .ref aA), (1, .int p1), (2, .int p2), (3, .int p3)] := hl
  unfold f_Ai_far at h
  refine lv_aload_n C.1.1 C.1.2.1 d_Ai_far_0 rfl (lv_at hl 0 rfl) ?_
  refine lv_iload_n C.1.1 C.1.2.1 d_Ai_far_1 rfl (lv_at hl 1 rfl) ?_
  refine lv_iload_n C.1.1 C.1.2.1 d_Ai_far_2 rfl (lv_at hl 2 rfl) ?_
  refine lv_iload_n C.1.1 C.1.2.1 d_Ai_far_3 rfl (lv_at hl 3 rfl) ?_
  obtain ⟨x1, hc2, h⟩ := bd_at h
  refine x_callV (ws' := [(aA, .inr (3, [.ref aN, .ref A_draft, .ref aA_images, .ref aA_kept, .ref aS, .ref A_reader, .ref aA_refused, .ref aA_heardBy])), (aA_refused, .inl (gI G, 3, .inl A_refused)), (aN, .inr (0, [.int N_width, .int N_height, .long N_everywhere, .long N_firstColumn, .long N_lastColumn, .ref aN_grounds, .ref aN_airs, .ref aN_tolds, .ref aN_fees, .ref aN_lets, .int N_makers, .ref aN_kinds, .ref aN_cells, .ref aN_selves, .ref aN_cries, .int N_leaves, .ref aN_parts, .int N_pasts, .ref aN_past])), (aN_grounds, .inl (gJ G, 3, .inr (.inl N_grounds))), (aN_airs, .inl (gJ G, 6, .inr (.inl N_airs))), (aN_kinds, .inl (gI G, 6, .inl N_kinds)), (aN_cells, .inl (gI G, 6, .inl N_cells)), (aN_selves, .inl (gI G, 6, .inl N_selves)), (aN_parts, .inl (gI G, 40, .inl N_parts)), (aS, .inr (2, [.ref S_land, .int S_maker, .int S_loud, .int S_hour, .int S_bought, .int S_gone, .ref aS_may, .ref aS_ways, .ref aS_echo, .ref aS_echoes, .long S_straight, .long S_all])), (aS_may, .inl (gJ G, 21, .inr (.inl S_may))), (aS_ways, .inl (gJ G, 21, .inr (.inl S_ways))), (aS_echo, .inl (gJ G, 21, .inr (.inl S_echo))), (aS_echoes, .inl (gJ G, 21, .inr (.inl S_echoes)))]) (stk := [.int x1]) (rest := []) (As := [.int p1, .int p2, .int p3]) (q0 := 0) C hE hW (c_Ai_isSound l G aA aA_images aA_kept aA_refused aA_heardBy aN aN_grounds aN_airs aN_tolds aN_fees aN_lets aN_kinds aN_cells aN_selves aN_cries aN_parts aN_past A_draft aS A_reader N_width N_height N_everywhere N_firstColumn N_lastColumn N_makers N_leaves N_pasts p1 p2 p3 hc2) cv_Ai_isSound tw554 hl rfl rfl (Nat.le_of_ble_eq_true rfl) rfl rfl rfl ⟨Nat.le_of_ble_eq_true rfl, Nat.le_of_ble_eq_true rfl⟩ ⟨Nat.zero_le _, Nat.zero_le _⟩ [0, 2] [1, 3, 4, 5, 6, 7, 8, 9, 10, 11, 12, 13] [12, 0, 13, 1, 2, 3, 4, 5, 6, 7, 8, 9, 10, 11] rfl rfl rfl (by decide) rfl rfl rfl rfl d_Ai_far_4 (fun H locs hW => ?_)
  refine lv_if_ne (tgt := 17) C.1.1 C.1.2.1 d_Ai_far_7 (by decide) (fun cc => ?_) (fun cc => ?_)
  · replace h := it_f cc h
    refine lv_aload_n C.1.1 C.1.2.1 d_Ai_far_17 rfl (lv_at hl 0 rfl) ?_
    refine lv_iload_n C.1.1 C.1.2.1 d_Ai_far_18 rfl (lv_at hl 1 rfl) ?_
    refine lv_iload_n C.1.1 C.1.2.1 d_Ai_far_19 rfl (lv_at hl 2 rfl) ?_
    refine lv_iload_n C.1.1 C.1.2.1 d_Ai_far_20 rfl (lv_at hl 3 rfl) ?_
    obtain ⟨⟨x3, x4, x5, x6, x7, x8, x9, x10, x11, x12, x13⟩, hc14, h⟩ := bd_at h
    refine x_callV (ws' := [(aA, .inr (3, [.ref aN, .ref A_draft, .ref aA_images, .ref aA_kept, .ref aS, .ref A_reader, .ref aA_refused, .ref aA_heardBy])), (aA_refused, .inl (gI G, 3, .inl A_refused)), (aN, .inr (0, [.int N_width, .int N_height, .long N_everywhere, .long N_firstColumn, .long N_lastColumn, .ref aN_grounds, .ref aN_airs, .ref aN_tolds, .ref aN_fees, .ref aN_lets, .int N_makers, .ref aN_kinds, .ref aN_cells, .ref aN_selves, .ref aN_cries, .int N_leaves, .ref aN_parts, .int N_pasts, .ref aN_past])), (aN_grounds, .inl (gJ G, 3, .inr (.inl N_grounds))), (aN_airs, .inl (gJ G, 6, .inr (.inl N_airs))), (aN_kinds, .inl (gI G, 6, .inl N_kinds)), (aN_cells, .inl (gI G, 6, .inl N_cells)), (aN_selves, .inl (gI G, 6, .inl N_selves)), (aN_parts, .inl (gI G, 40, .inl N_parts)), (aS, .inr (2, [.ref aN, .int x3, .int x4, .int x5, .int x6, .int x7, .ref aS_may, .ref aS_ways, .ref aS_echo, .ref aS_echoes, .long x12, .long x13])), (aS_may, .inl (gJ G, 21, .inr (.inl x8))), (aS_ways, .inl (gJ G, 21, .inr (.inl x9))), (aS_echo, .inl (gJ G, 21, .inr (.inl x10))), (aS_echoes, .inl (gJ G, 21, .inr (.inl x11)))]) (stk := []) (rest := []) (As := [.int p1, .int p2, .int p3]) (q0 := 0) C hE hW (c_Ai_makeSound l G aA aA_images aA_kept aA_refused aA_heardBy aN aN_grounds aN_airs aN_tolds aN_fees aN_lets aN_kinds aN_cells aN_selves aN_cries aN_parts aN_past aS aS_may aS_ways aS_echo aS_echoes A_draft A_reader N_width N_height N_everywhere N_firstColumn N_lastColumn N_makers N_leaves N_pasts S_land S_maker S_loud S_hour S_bought S_gone S_straight S_all N_grounds N_airs N_kinds N_cells N_selves N_parts S_may S_ways S_echo S_echoes p1 p2 p3 hc14) cv_Ai_makeSound tw558 hl rfl rfl (Nat.le_of_ble_eq_true rfl) rfl rfl rfl ⟨Nat.le_of_ble_eq_true rfl, Nat.le_of_ble_eq_true rfl⟩ ⟨Nat.zero_le _, Nat.zero_le _⟩ [0, 2, 3, 4, 5, 6, 7, 8, 9, 10, 11, 12, 13] [1] [1, 0, 2, 3, 4, 5, 6, 7, 8, 9, 10, 11, 12, 13] rfl rfl rfl (by decide) rfl rfl rfl rfl d_Ai_far_21 (fun H locs hW => ?_)
    refine lv_aload_n C.1.1 C.1.2.1 d_Ai_far_24 rfl (lv_at hl 0 rfl) ?_
    refine x_get C hE hW fl_Ai_32 0 rfl rfl d_Ai_far_25 ?_
    refine x_get C hE hW fl_Ai_147 9 rfl rfl d_Ai_far_28 ?_
    obtain ⟨x15, hc16, h⟩ := bd_at h
    refine x_callS (ws' := [(aA, .inr (3, [.ref aN, .ref A_draft, .ref aA_images, .ref aA_kept, .ref aS, .ref A_reader, .ref aA_refused, .ref aA_heardBy])), (aA_refused, .inl (gI G, 3, .inl A_refused)), (aN, .inr (0, [.int N_width, .int N_height, .long N_everywhere, .long N_firstColumn, .long N_lastColumn, .ref aN_grounds, .ref aN_airs, .ref aN_tolds, .ref aN_fees, .ref aN_lets, .int N_makers, .ref aN_kinds, .ref aN_cells, .ref aN_selves, .ref aN_cries, .int N_leaves, .ref aN_parts, .int N_pasts, .ref aN_past])), (aN_grounds, .inl (gJ G, 3, .inr (.inl N_grounds))), (aN_airs, .inl (gJ G, 6, .inr (.inl N_airs))), (aN_kinds, .inl (gI G, 6, .inl N_kinds)), (aN_cells, .inl (gI G, 6, .inl N_cells)), (aN_selves, .inl (gI G, 6, .inl N_selves)), (aN_parts, .inl (gI G, 40, .inl N_parts)), (aS, .inr (2, [.ref aN, .int x3, .int x4, .int x5, .int x6, .int x7, .ref aS_may, .ref aS_ways, .ref aS_echo, .ref aS_echoes, .long x12, .long x13])), (aS_may, .inl (gJ G, 21, .inr (.inl x8))), (aS_ways, .inl (gJ G, 21, .inr (.inl x9))), (aS_echo, .inl (gJ G, 21, .inr (.inl x10))), (aS_echoes, .inl (gJ G, 21, .inr (.inl x11)))]) (stk := [.int x15]) (rest := []) (As := [.long x13]) C hE hW (c_JL_bitCount l G x13 hc16) cv_JL_bitCount tw641 hl rfl rfl (Nat.le_of_ble_eq_true rfl) ⟨Nat.le_of_ble_eq_true rfl, Nat.le_of_ble_eq_true rfl⟩ ⟨Nat.zero_le _, Nat.zero_le _⟩ [] [0, 1, 2, 3, 4, 5, 6, 7, 8, 9, 10, 11, 12, 13] [0, 1, 2, 3, 4, 5, 6, 7, 8, 9, 10, 11, 12, 13] rfl rfl rfl (by decide) rfl rfl rfl rfl d_Ai_far_31 (fun H locs hW => ?_)
    obtain rfl := Option.some.inj h
    exact x_iret C hW rfl rfl hQ d_Ai_far_34
  · replace h := it_t cc h
    refine lv_aload_n C.1.1 C.1.2.1 d_Ai_far_10 rfl (lv_at hl 0 rfl) ?_
    refine lv_bipush (v := (-2)) C.1.1 C.1.2.1 d_Ai_far_11 (by decide) ?_
    obtain ⟨⟨x17, x18⟩, hc19, h⟩ := bd_at h
    refine x_callV (ws' := [(aA, .inr (3, [.ref aN, .ref A_draft, .ref aA_images, .ref aA_kept, .ref aS, .ref A_reader, .ref aA_refused, .ref aA_heardBy])), (aA_refused, .inl (gI G, 3, .inl x18)), (aN, .inr (0, [.int N_width, .int N_height, .long N_everywhere, .long N_firstColumn, .long N_lastColumn, .ref aN_grounds, .ref aN_airs, .ref aN_tolds, .ref aN_fees, .ref aN_lets, .int N_makers, .ref aN_kinds, .ref aN_cells, .ref aN_selves, .ref aN_cries, .int N_leaves, .ref aN_parts, .int N_pasts, .ref aN_past])), (aN_grounds, .inl (gJ G, 3, .inr (.inl N_grounds))), (aN_airs, .inl (gJ G, 6, .inr (.inl N_airs))), (aN_kinds, .inl (gI G, 6, .inl N_kinds)), (aN_cells, .inl (gI G, 6, .inl N_cells)), (aN_selves, .inl (gI G, 6, .inl N_selves)), (aN_parts, .inl (gI G, 40, .inl N_parts)), (aS, .inr (2, [.ref S_land, .int S_maker, .int S_loud, .int S_hour, .int S_bought, .int S_gone, .ref aS_may, .ref aS_ways, .ref aS_echo, .ref aS_echoes, .long S_straight, .long S_all])), (aS_may, .inl (gJ G, 21, .inr (.inl S_may))), (aS_ways, .inl (gJ G, 21, .inr (.inl S_ways))), (aS_echo, .inl (gJ G, 21, .inr (.inl S_echo))), (aS_echoes, .inl (gJ G, 21, .inr (.inl S_echoes)))]) (stk := [.int x17]) (rest := []) (As := [.int (-2)]) (q0 := 0) C hE hW (c_Ai_refuse l G aA aA_images aA_kept aA_refused aA_heardBy aN A_draft aS A_reader A_refused (-2) hc19) cv_Ai_refuse tw308 hl rfl rfl (Nat.le_of_ble_eq_true rfl) rfl rfl rfl ⟨Nat.le_of_ble_eq_true rfl, Nat.le_of_ble_eq_true rfl⟩ ⟨Nat.zero_le _, Nat.zero_le _⟩ [0, 1] [2, 3, 4, 5, 6, 7, 8, 9, 10, 11, 12, 13] [12, 13, 0, 1, 2, 3, 4, 5, 6, 7, 8, 9, 10, 11] rfl rfl rfl (by decide) rfl rfl rfl rfl d_Ai_far_13 (fun H locs hW => ?_)
    obtain rfl := Option.some.inj h
    exact x_iret C hW rfl rfl hQ d_Ai_far_16
set_option maxHeartbeats 4000000 in
set_option maxRecDepth 100000 in
theorem c_Ai_costOfSound (l : Launch) (G : Gl) (aA : Nat) (aA_images : Nat) (aA_kept : Nat) (aA_refused : Nat) (aA_heardBy : Nat) (aN : Nat) (aN_grounds : Nat) (aN_airs : Nat) (aN_tolds : Nat) (aN_fees : Nat) (aN_lets : Nat) (aN_kinds : Nat) (aN_cells : Nat) (aN_selves : Nat) (aN_cries : Nat) (aN_parts : Nat) (aN_past : Nat) (aS : Nat) (aS_may : Nat) (aS_ways : Nat) (aS_echo : Nat) (aS_echoes : Nat) (A_draft : Nat) (A_reader : Nat) (N_width : Int32) (N_height : Int32) (N_everywhere : Int64) (N_firstColumn : Int64) (N_lastColumn : Int64) (N_makers : Int32) (N_leaves : Int32) (N_pasts : Int32) (S_land : Nat) (S_maker : Int32) (S_loud : Int32) (S_hour : Int32) (S_bought : Int32) (S_gone : Int32) (S_straight : Int64) (S_all : Int64) (N_airs : Nat → Int64) (N_fees : Nat → Int32) (N_selves : Nat → Int32) (p1 : Int32) {res : Int32} (h : f_Ai_costOfSound N_makers S_straight N_airs N_fees N_selves p1 = some res) : Ct l y_Ai_costOfSound b_Ai_costOfSound 4 (some .int) 1 21 G [.ref aA, .int p1] [(aA, .inr (3, [.ref aN, .ref A_draft, .ref aA_images, .ref aA_kept, .ref aS, .ref A_reader, .ref aA_refused, .ref aA_heardBy])), (aN, .inr (0, [.int N_width, .int N_height, .long N_everywhere, .long N_firstColumn, .long N_lastColumn, .ref aN_grounds, .ref aN_airs, .ref aN_tolds, .ref aN_fees, .ref aN_lets, .int N_makers, .ref aN_kinds, .ref aN_cells, .ref aN_selves, .ref aN_cries, .int N_leaves, .ref aN_parts, .int N_pasts, .ref aN_past])), (aN_airs, .inl (gJ G, 6, .inr (.inl N_airs))), (aN_fees, .inl (gI G, 6, .inl N_fees)), (aN_selves, .inl (gI G, 6, .inl N_selves)), (aS, .inr (2, [.ref S_land, .int S_maker, .int S_loud, .int S_hour, .int S_bought, .int S_gone, .ref aS_may, .ref aS_ways, .ref aS_echo, .ref aS_echoes, .long S_straight, .long S_all]))] (some (.int res)) [(aA, .inr (3, [.ref aN, .ref A_draft, .ref aA_images, .ref aA_kept, .ref aS, .ref A_reader, .ref aA_refused, .ref aA_heardBy])), (aN, .inr (0, [.int N_width, .int N_height, .long N_everywhere, .long N_firstColumn, .long N_lastColumn, .ref aN_grounds, .ref aN_airs, .ref aN_tolds, .ref aN_fees, .ref aN_lets, .int N_makers, .ref aN_kinds, .ref aN_cells, .ref aN_selves, .ref aN_cries, .int N_leaves, .ref aN_parts, .int N_pasts, .ref aN_past])), (aN_airs, .inl (gJ G, 6, .inr (.inl N_airs))), (aN_fees, .inl (gI G, 6, .inl N_fees)), (aN_selves, .inl (gI G, 6, .inl N_selves)), (aS, .inr (2, [.ref S_land, .int S_maker, .int S_loud, .int S_hour, .int S_bought, .int S_gone, .ref aS_may, .ref aS_ways, .ref aS_echo, .ref aS_echoes, .long S_straight, .long S_all]))] := by
  refine Ct.mk (by decide) (Nat.le_of_ble_eq_true rfl) ?_
  intro p e s m args below meth c ls A Q C hE hW hl hQ
  have C : Cx p s args m c meth "LentAir" y_Ai_costOfSound b_Ai_costOfSound 4 (some .int) := C
  have hl : lv_has ls 4 [(0, .ref aA), (1, .int p1)] := hl
  unfold f_Ai_costOfSound at h
  refine lv_iconst (v := 0) C.1.1 C.1.2.1 d_Ai_costOfSound_0 (by decide) ?_
  refine lv_istore_n (lv' := [(2, .int 0), (0, .ref aA), (1, .int p1)]) C.1.1 C.1.2.1 d_Ai_costOfSound_1 rfl hl (by decide) rfl (fun ls hl => ?_)
  refine lv_iconst (v := 0) C.1.1 C.1.2.1 d_Ai_costOfSound_2 (by decide) ?_
  refine lv_istore_n (lv' := [(3, .int 0), (2, .int 0), (0, .ref aA), (1, .int p1)]) C.1.1 C.1.2.1 d_Ai_costOfSound_3 rfl hl (by decide) rfl (fun ls hl => ?_)
  refine lp_at (P := fun ((x1, x2) : Int32 × Int32) => ∀ (H : Heap) (locs : List Loc) (ls : Array Slot), Wd G A s.heap H locs [(aA, .inr (3, [.ref aN, .ref A_draft, .ref aA_images, .ref aA_kept, .ref aS, .ref A_reader, .ref aA_refused, .ref aA_heardBy])), (aN, .inr (0, [.int N_width, .int N_height, .long N_everywhere, .long N_firstColumn, .long N_lastColumn, .ref aN_grounds, .ref aN_airs, .ref aN_tolds, .ref aN_fees, .ref aN_lets, .int N_makers, .ref aN_kinds, .ref aN_cells, .ref aN_selves, .ref aN_cries, .int N_leaves, .ref aN_parts, .int N_pasts, .ref aN_past])), (aN_airs, .inl (gJ G, 6, .inr (.inl N_airs))), (aN_fees, .inl (gI G, 6, .inl N_fees)), (aN_selves, .inl (gI G, 6, .inl N_selves)), (aS, .inr (2, [.ref S_land, .int S_maker, .int S_loud, .int S_hour, .int S_bought, .int S_gone, .ref aS_may, .ref aS_ways, .ref aS_echo, .ref aS_echoes, .long S_straight, .long S_all]))] → lv_has ls 4 [(0, .ref aA), (1, .int p1), (2, .int x1), (3, .int x2)] → W p l e (RM 1 21) s m args below meth c H locs 0 0 Q (F0 m 4 ls [])) ?_ FU _ h _ _ _ hW (lv_sub hl [2, 3, 1, 0] rfl)
  clear h hl hW
  intro rec4 ih4
  intro x h
  obtain ⟨x1, x2⟩ := x
  unfold f_Ai_costOfSound_L4 at h
  intro H locs ls hW hl
  refine lv_iload_n C.1.1 C.1.2.1 d_Ai_costOfSound_4 rfl (lv_at hl 3 rfl) ?_
  refine lv_bipush (v := 6) C.1.1 C.1.2.1 d_Ai_costOfSound_5 (by decide) ?_
  refine lv_icmp_ge (tgt := 61) C.1.1 C.1.2.1 d_Ai_costOfSound_7 (by decide) (fun cc => ?_) (fun cc => ?_)
  · replace h := it_t cc h
    refine lv_iload_n C.1.1 C.1.2.1 d_Ai_costOfSound_61 rfl (lv_at hl 2 rfl) ?_
    obtain rfl := Option.some.inj h
    exact x_iret C hW rfl rfl hQ d_Ai_costOfSound_62
  · replace h := it_f cc h
    refine lv_iload_n C.1.1 C.1.2.1 d_Ai_costOfSound_10 rfl (lv_at hl 3 rfl) ?_
    refine lv_aload_n C.1.1 C.1.2.1 d_Ai_costOfSound_11 rfl (lv_at hl 0 rfl) ?_
    refine x_get C hE hW fl_Ai_12 0 rfl rfl d_Ai_costOfSound_12 ?_
    refine lv_iload_n C.1.1 C.1.2.1 d_Ai_costOfSound_15 rfl (lv_at hl 1 rfl) ?_
    obtain ⟨x3, hc4, h⟩ := bd_at h
    refine x_callV (ws' := [(aA, .inr (3, [.ref aN, .ref A_draft, .ref aA_images, .ref aA_kept, .ref aS, .ref A_reader, .ref aA_refused, .ref aA_heardBy])), (aN, .inr (0, [.int N_width, .int N_height, .long N_everywhere, .long N_firstColumn, .long N_lastColumn, .ref aN_grounds, .ref aN_airs, .ref aN_tolds, .ref aN_fees, .ref aN_lets, .int N_makers, .ref aN_kinds, .ref aN_cells, .ref aN_selves, .ref aN_cries, .int N_leaves, .ref aN_parts, .int N_pasts, .ref aN_past])), (aN_airs, .inl (gJ G, 6, .inr (.inl N_airs))), (aN_fees, .inl (gI G, 6, .inl N_fees)), (aN_selves, .inl (gI G, 6, .inl N_selves)), (aS, .inr (2, [.ref S_land, .int S_maker, .int S_loud, .int S_hour, .int S_bought, .int S_gone, .ref aS_may, .ref aS_ways, .ref aS_echo, .ref aS_echoes, .long S_straight, .long S_all]))]) (stk := [.int x3, .int x2]) (rest := [.int x2]) (As := [.int p1]) (q0 := 1) C hE hW (c_Ld_selfOf l G aN aN_grounds aN_airs aN_tolds aN_fees aN_lets aN_kinds aN_cells aN_selves aN_cries aN_parts aN_past N_width N_height N_everywhere N_firstColumn N_lastColumn N_makers N_leaves N_pasts N_selves p1 hc4) cv_Ld_selfOf tw655 hl rfl rfl (Nat.le_of_ble_eq_true rfl) rfl rfl rfl ⟨Nat.le_of_ble_eq_true rfl, Nat.le_of_ble_eq_true rfl⟩ ⟨Nat.zero_le _, Nat.zero_le _⟩ [1, 4] [0, 2, 3, 5] [0, 4, 1, 2, 5, 3] rfl rfl rfl (by decide) rfl rfl rfl rfl d_Ai_costOfSound_16 (fun H locs hW => ?_)
    refine jn_at (P := fun (x5 : Int32) => ∀ (H : Heap) (locs : List Loc) (ls : Array Slot), Wd G A s.heap H locs [(aA, .inr (3, [.ref aN, .ref A_draft, .ref aA_images, .ref aA_kept, .ref aS, .ref A_reader, .ref aA_refused, .ref aA_heardBy])), (aN, .inr (0, [.int N_width, .int N_height, .long N_everywhere, .long N_firstColumn, .long N_lastColumn, .ref aN_grounds, .ref aN_airs, .ref aN_tolds, .ref aN_fees, .ref aN_lets, .int N_makers, .ref aN_kinds, .ref aN_cells, .ref aN_selves, .ref aN_cries, .int N_leaves, .ref aN_parts, .int N_pasts, .ref aN_past])), (aN_airs, .inl (gJ G, 6, .inr (.inl N_airs))), (aN_fees, .inl (gI G, 6, .inl N_fees)), (aN_selves, .inl (gI G, 6, .inl N_selves)), (aS, .inr (2, [.ref S_land, .int S_maker, .int S_loud, .int S_hour, .int S_bought, .int S_gone, .ref aS_may, .ref aS_ways, .ref aS_echo, .ref aS_echoes, .long S_straight, .long S_all]))] → lv_has ls 4 [(0, .ref aA), (1, .int p1), (2, .int x5), (3, .int x2)] → W p l e (RM 1 21) s m args below meth c H locs 0 0 Q (F0 m 55 ls [])) h ?_ ?_
    · skip
      intro x5 h
      intro H locs ls hW hl
      obtain ⟨x6, ex6⟩ : ∃ y : Int32, y = x2 + 1 := ⟨_, rfl⟩
      replace h := lt_at ex6 h
      refine lv_iinc (v := x6) (lv' := [(3, .int x6), (0, .ref aA), (1, .int p1), (2, .int x5)]) C.1.1 C.1.2.1 d_Ai_costOfSound_55 hl (k := 3) rfl (by rw [ex6]; rfl) (by decide) rfl (fun ls hl => ?_)
      refine lv_goto (tgt := 4) C.1.1 C.1.2.1 d_Ai_costOfSound_58 (by decide) ?_
      exact ih4 _ h _ _ _ hW (lv_sub hl [1, 2, 3, 0] rfl)
    · intro J55 hJ55 h
      refine lv_icmp_eq (tgt := 55) C.1.1 C.1.2.1 d_Ai_costOfSound_19 (by decide) (fun cc => ?_) (fun cc => ?_)
      · replace h := it_t cc h
        exact hJ55 _ h _ _ _ hW (lv_sub hl [0, 1, 2, 3] rfl)
      · replace h := it_f cc h
        refine lv_iload_n C.1.1 C.1.2.1 d_Ai_costOfSound_22 rfl (lv_at hl 2 rfl) ?_
        refine lv_aload_n C.1.1 C.1.2.1 d_Ai_costOfSound_23 rfl (lv_at hl 0 rfl) ?_
        refine x_get C hE hW fl_Ai_12 0 rfl rfl d_Ai_costOfSound_24 ?_
        refine x_get C hE hW fl_Ai_266 1 rfl rfl d_Ai_costOfSound_27 ?_
        refine lv_iload_n C.1.1 C.1.2.1 d_Ai_costOfSound_30 rfl (lv_at hl 3 rfl) ?_
        obtain ⟨hg, h⟩ := gd_at h
        refine x_iald C hE hW 3 rfl (inB_in hg) d_Ai_costOfSound_31 ?_
        refine lv_aload_n C.1.1 C.1.2.1 d_Ai_costOfSound_32 rfl (lv_at hl 0 rfl) ?_
        refine x_get C hE hW fl_Ai_32 0 rfl rfl d_Ai_costOfSound_33 ?_
        refine x_get C hE hW fl_Ai_163 5 rfl rfl d_Ai_costOfSound_36 ?_
        refine lv_aload_n C.1.1 C.1.2.1 d_Ai_costOfSound_39 rfl (lv_at hl 0 rfl) ?_
        refine x_get C hE hW fl_Ai_12 0 rfl rfl d_Ai_costOfSound_40 ?_
        refine x_get C hE hW fl_Ai_70 1 rfl rfl d_Ai_costOfSound_43 ?_
        refine lv_iload_n C.1.1 C.1.2.1 d_Ai_costOfSound_46 rfl (lv_at hl 3 rfl) ?_
        obtain ⟨hg, h⟩ := gd_at h
        refine x_lald C hE hW 2 rfl (inB_in hg) d_Ai_costOfSound_47 ?_
        refine lv_land C.1.1 C.1.2.1 d_Ai_costOfSound_48 ?_
        obtain ⟨x7, hc8, h⟩ := bd_at h
        refine x_callS (ws' := [(aA, .inr (3, [.ref aN, .ref A_draft, .ref aA_images, .ref aA_kept, .ref aS, .ref A_reader, .ref aA_refused, .ref aA_heardBy])), (aN, .inr (0, [.int N_width, .int N_height, .long N_everywhere, .long N_firstColumn, .long N_lastColumn, .ref aN_grounds, .ref aN_airs, .ref aN_tolds, .ref aN_fees, .ref aN_lets, .int N_makers, .ref aN_kinds, .ref aN_cells, .ref aN_selves, .ref aN_cries, .int N_leaves, .ref aN_parts, .int N_pasts, .ref aN_past])), (aN_airs, .inl (gJ G, 6, .inr (.inl N_airs))), (aN_fees, .inl (gI G, 6, .inl N_fees)), (aN_selves, .inl (gI G, 6, .inl N_selves)), (aS, .inr (2, [.ref S_land, .int S_maker, .int S_loud, .int S_hour, .int S_bought, .int S_gone, .ref aS_may, .ref aS_ways, .ref aS_echo, .ref aS_echoes, .long S_straight, .long S_all]))]) (stk := [.int x7, .int (N_fees x2.toNatClampNeg), .int x1]) (rest := [.int (N_fees x2.toNatClampNeg), .int x1]) (As := [.long (S_straight &&& (N_airs x2.toNatClampNeg))]) C hE hW (c_JL_bitCount l G (S_straight &&& (N_airs x2.toNatClampNeg)) hc8) cv_JL_bitCount tw641 hl rfl rfl (Nat.le_of_ble_eq_true rfl) ⟨Nat.le_of_ble_eq_true rfl, Nat.le_of_ble_eq_true rfl⟩ ⟨Nat.zero_le _, Nat.zero_le _⟩ [] [0, 1, 2, 3, 4, 5] [0, 1, 2, 3, 4, 5] rfl rfl rfl (by decide) rfl rfl rfl rfl d_Ai_costOfSound_49 (fun H locs hW => ?_)
        refine lv_imul C.1.1 C.1.2.1 d_Ai_costOfSound_52 ?_
        refine lv_iadd C.1.1 C.1.2.1 d_Ai_costOfSound_53 ?_
        refine lv_topi (fun x9 ex9 => ?_)
        replace h := lt_at ex9 h
        refine lv_istore_n (lv' := [(2, .int x9), (0, .ref aA), (1, .int p1), (3, .int x2)]) C.1.1 C.1.2.1 d_Ai_costOfSound_54 rfl hl (by decide) rfl (fun ls hl => ?_)
        exact hJ55 _ h _ _ _ hW (lv_sub hl [1, 2, 0, 3] rfl)
set_option maxHeartbeats 4000000 in
set_option maxRecDepth 100000 in
theorem c_Ai_cost (l : Launch) (G : Gl) (aA : Nat) (aA_images : Nat) (aA_kept : Nat) (aA_refused : Nat) (aA_heardBy : Nat) (aN : Nat) (aN_grounds : Nat) (aN_airs : Nat) (aN_tolds : Nat) (aN_fees : Nat) (aN_lets : Nat) (aN_kinds : Nat) (aN_cells : Nat) (aN_selves : Nat) (aN_cries : Nat) (aN_parts : Nat) (aN_past : Nat) (aS : Nat) (aS_may : Nat) (aS_ways : Nat) (aS_echo : Nat) (aS_echoes : Nat) (A_draft : Nat) (A_reader : Nat) (N_width : Int32) (N_height : Int32) (N_everywhere : Int64) (N_firstColumn : Int64) (N_lastColumn : Int64) (N_makers : Int32) (N_leaves : Int32) (N_pasts : Int32) (S_land : Nat) (S_maker : Int32) (S_loud : Int32) (S_hour : Int32) (S_bought : Int32) (S_gone : Int32) (S_straight : Int64) (S_all : Int64) (A_refused : Nat → Int32) (N_grounds : Nat → Int64) (N_airs : Nat → Int64) (N_fees : Nat → Int32) (N_kinds : Nat → Int32) (N_cells : Nat → Int32) (N_selves : Nat → Int32) (N_parts : Nat → Int32) (S_may : Nat → Int64) (S_ways : Nat → Int64) (S_echo : Nat → Int64) (S_echoes : Nat → Int64) (p1 : Int32) (p2 : Int32) (p3 : Int32) {res : Int32 × (Nat → Int32) × Nat × Int32 × Int32 × Int32 × Int32 × Int32 × (Nat → Int64) × (Nat → Int64) × (Nat → Int64) × (Nat → Int64) × Int64 × Int64} (h : f_Ai_cost aN N_width N_everywhere N_firstColumn N_lastColumn N_makers N_leaves S_land S_maker S_loud S_hour S_bought S_gone S_straight S_all A_refused N_grounds N_airs N_fees N_kinds N_cells N_selves N_parts S_may S_ways S_echo S_echoes p1 p2 p3 = some res) : Ct l y_Ai_cost b_Ai_cost 4 (some .int) 6 152 G [.ref aA, .int p1, .int p2, .int p3] [(aA, .inr (3, [.ref aN, .ref A_draft, .ref aA_images, .ref aA_kept, .ref aS, .ref A_reader, .ref aA_refused, .ref aA_heardBy])), (aA_refused, .inl (gI G, 3, .inl A_refused)), (aN, .inr (0, [.int N_width, .int N_height, .long N_everywhere, .long N_firstColumn, .long N_lastColumn, .ref aN_grounds, .ref aN_airs, .ref aN_tolds, .ref aN_fees, .ref aN_lets, .int N_makers, .ref aN_kinds, .ref aN_cells, .ref aN_selves, .ref aN_cries, .int N_leaves, .ref aN_parts, .int N_pasts, .ref aN_past])), (aN_grounds, .inl (gJ G, 3, .inr (.inl N_grounds))), (aN_airs, .inl (gJ G, 6, .inr (.inl N_airs))), (aN_fees, .inl (gI G, 6, .inl N_fees)), (aN_kinds, .inl (gI G, 6, .inl N_kinds)), (aN_cells, .inl (gI G, 6, .inl N_cells)), (aN_selves, .inl (gI G, 6, .inl N_selves)), (aN_parts, .inl (gI G, 40, .inl N_parts)), (aS, .inr (2, [.ref S_land, .int S_maker, .int S_loud, .int S_hour, .int S_bought, .int S_gone, .ref aS_may, .ref aS_ways, .ref aS_echo, .ref aS_echoes, .long S_straight, .long S_all])), (aS_may, .inl (gJ G, 21, .inr (.inl S_may))), (aS_ways, .inl (gJ G, 21, .inr (.inl S_ways))), (aS_echo, .inl (gJ G, 21, .inr (.inl S_echo))), (aS_echoes, .inl (gJ G, 21, .inr (.inl S_echoes)))] (some (.int res.1)) [(aA, .inr (3, [.ref aN, .ref A_draft, .ref aA_images, .ref aA_kept, .ref aS, .ref A_reader, .ref aA_refused, .ref aA_heardBy])), (aA_refused, .inl (gI G, 3, .inl (res.2.1))), (aN, .inr (0, [.int N_width, .int N_height, .long N_everywhere, .long N_firstColumn, .long N_lastColumn, .ref aN_grounds, .ref aN_airs, .ref aN_tolds, .ref aN_fees, .ref aN_lets, .int N_makers, .ref aN_kinds, .ref aN_cells, .ref aN_selves, .ref aN_cries, .int N_leaves, .ref aN_parts, .int N_pasts, .ref aN_past])), (aN_grounds, .inl (gJ G, 3, .inr (.inl N_grounds))), (aN_airs, .inl (gJ G, 6, .inr (.inl N_airs))), (aN_fees, .inl (gI G, 6, .inl N_fees)), (aN_kinds, .inl (gI G, 6, .inl N_kinds)), (aN_cells, .inl (gI G, 6, .inl N_cells)), (aN_selves, .inl (gI G, 6, .inl N_selves)), (aN_parts, .inl (gI G, 40, .inl N_parts)), (aS, .inr (2, [.ref (res.2.2.1), .int (res.2.2.2.1), .int (res.2.2.2.2.1), .int (res.2.2.2.2.2.1), .int (res.2.2.2.2.2.2.1), .int (res.2.2.2.2.2.2.2.1), .ref aS_may, .ref aS_ways, .ref aS_echo, .ref aS_echoes, .long (res.2.2.2.2.2.2.2.2.2.2.2.2.1), .long (res.2.2.2.2.2.2.2.2.2.2.2.2.2)])), (aS_may, .inl (gJ G, 21, .inr (.inl (res.2.2.2.2.2.2.2.2.1)))), (aS_ways, .inl (gJ G, 21, .inr (.inl (res.2.2.2.2.2.2.2.2.2.1)))), (aS_echo, .inl (gJ G, 21, .inr (.inl (res.2.2.2.2.2.2.2.2.2.2.1)))), (aS_echoes, .inl (gJ G, 21, .inr (.inl (res.2.2.2.2.2.2.2.2.2.2.2.1))))] := by
  refine Ct.mk (by decide) (Nat.le_of_ble_eq_true rfl) ?_
  intro p e s m args below meth c ls A Q C hE hW hl hQ
  have C : Cx p s args m c meth "LentAir" y_Ai_cost b_Ai_cost 4 (some .int) := C
  have hl : lv_has ls 4 [(0, .ref aA), (1, .int p1), (2, .int p2), (3, .int p3)] := hl
  unfold f_Ai_cost at h
  refine lv_aload_n C.1.1 C.1.2.1 d_Ai_cost_0 rfl (lv_at hl 0 rfl) ?_
  refine lv_iload_n C.1.1 C.1.2.1 d_Ai_cost_1 rfl (lv_at hl 1 rfl) ?_
  refine lv_iload_n C.1.1 C.1.2.1 d_Ai_cost_2 rfl (lv_at hl 2 rfl) ?_
  refine lv_iload_n C.1.1 C.1.2.1 d_Ai_cost_3 rfl (lv_at hl 3 rfl) ?_
  obtain ⟨x1, hc2, h⟩ := bd_at h
  refine x_callV (ws' := [(aA, .inr (3, [.ref aN, .ref A_draft, .ref aA_images, .ref aA_kept, .ref aS, .ref A_reader, .ref aA_refused, .ref aA_heardBy])), (aA_refused, .inl (gI G, 3, .inl A_refused)), (aN, .inr (0, [.int N_width, .int N_height, .long N_everywhere, .long N_firstColumn, .long N_lastColumn, .ref aN_grounds, .ref aN_airs, .ref aN_tolds, .ref aN_fees, .ref aN_lets, .int N_makers, .ref aN_kinds, .ref aN_cells, .ref aN_selves, .ref aN_cries, .int N_leaves, .ref aN_parts, .int N_pasts, .ref aN_past])), (aN_grounds, .inl (gJ G, 3, .inr (.inl N_grounds))), (aN_airs, .inl (gJ G, 6, .inr (.inl N_airs))), (aN_fees, .inl (gI G, 6, .inl N_fees)), (aN_kinds, .inl (gI G, 6, .inl N_kinds)), (aN_cells, .inl (gI G, 6, .inl N_cells)), (aN_selves, .inl (gI G, 6, .inl N_selves)), (aN_parts, .inl (gI G, 40, .inl N_parts)), (aS, .inr (2, [.ref S_land, .int S_maker, .int S_loud, .int S_hour, .int S_bought, .int S_gone, .ref aS_may, .ref aS_ways, .ref aS_echo, .ref aS_echoes, .long S_straight, .long S_all])), (aS_may, .inl (gJ G, 21, .inr (.inl S_may))), (aS_ways, .inl (gJ G, 21, .inr (.inl S_ways))), (aS_echo, .inl (gJ G, 21, .inr (.inl S_echo))), (aS_echoes, .inl (gJ G, 21, .inr (.inl S_echoes)))]) (stk := [.int x1]) (rest := []) (As := [.int p1, .int p2, .int p3]) (q0 := 0) C hE hW (c_Ai_isSound l G aA aA_images aA_kept aA_refused aA_heardBy aN aN_grounds aN_airs aN_tolds aN_fees aN_lets aN_kinds aN_cells aN_selves aN_cries aN_parts aN_past A_draft aS A_reader N_width N_height N_everywhere N_firstColumn N_lastColumn N_makers N_leaves N_pasts p1 p2 p3 hc2) cv_Ai_isSound tw554 hl rfl rfl (Nat.le_of_ble_eq_true rfl) rfl rfl rfl ⟨Nat.le_of_ble_eq_true rfl, Nat.le_of_ble_eq_true rfl⟩ ⟨Nat.zero_le _, Nat.zero_le _⟩ [0, 2] [1, 3, 4, 5, 6, 7, 8, 9, 10, 11, 12, 13, 14] [13, 0, 14, 1, 2, 3, 4, 5, 6, 7, 8, 9, 10, 11, 12] rfl rfl rfl (by decide) rfl rfl rfl rfl d_Ai_cost_4 (fun H locs hW => ?_)
  refine lv_if_ne (tgt := 17) C.1.1 C.1.2.1 d_Ai_cost_7 (by decide) (fun cc => ?_) (fun cc => ?_)
  · replace h := it_f cc h
    refine lv_aload_n C.1.1 C.1.2.1 d_Ai_cost_17 rfl (lv_at hl 0 rfl) ?_
    refine lv_iload_n C.1.1 C.1.2.1 d_Ai_cost_18 rfl (lv_at hl 1 rfl) ?_
    refine lv_iload_n C.1.1 C.1.2.1 d_Ai_cost_19 rfl (lv_at hl 2 rfl) ?_
    refine lv_iload_n C.1.1 C.1.2.1 d_Ai_cost_20 rfl (lv_at hl 3 rfl) ?_
    obtain ⟨⟨x3, x4, x5, x6, x7, x8, x9, x10, x11, x12, x13⟩, hc14, h⟩ := bd_at h
    refine x_callV (ws' := [(aA, .inr (3, [.ref aN, .ref A_draft, .ref aA_images, .ref aA_kept, .ref aS, .ref A_reader, .ref aA_refused, .ref aA_heardBy])), (aA_refused, .inl (gI G, 3, .inl A_refused)), (aN, .inr (0, [.int N_width, .int N_height, .long N_everywhere, .long N_firstColumn, .long N_lastColumn, .ref aN_grounds, .ref aN_airs, .ref aN_tolds, .ref aN_fees, .ref aN_lets, .int N_makers, .ref aN_kinds, .ref aN_cells, .ref aN_selves, .ref aN_cries, .int N_leaves, .ref aN_parts, .int N_pasts, .ref aN_past])), (aN_grounds, .inl (gJ G, 3, .inr (.inl N_grounds))), (aN_airs, .inl (gJ G, 6, .inr (.inl N_airs))), (aN_fees, .inl (gI G, 6, .inl N_fees)), (aN_kinds, .inl (gI G, 6, .inl N_kinds)), (aN_cells, .inl (gI G, 6, .inl N_cells)), (aN_selves, .inl (gI G, 6, .inl N_selves)), (aN_parts, .inl (gI G, 40, .inl N_parts)), (aS, .inr (2, [.ref aN, .int x3, .int x4, .int x5, .int x6, .int x7, .ref aS_may, .ref aS_ways, .ref aS_echo, .ref aS_echoes, .long x12, .long x13])), (aS_may, .inl (gJ G, 21, .inr (.inl x8))), (aS_ways, .inl (gJ G, 21, .inr (.inl x9))), (aS_echo, .inl (gJ G, 21, .inr (.inl x10))), (aS_echoes, .inl (gJ G, 21, .inr (.inl x11)))]) (stk := []) (rest := []) (As := [.int p1, .int p2, .int p3]) (q0 := 0) C hE hW (c_Ai_makeSound l G aA aA_images aA_kept aA_refused aA_heardBy aN aN_grounds aN_airs aN_tolds aN_fees aN_lets aN_kinds aN_cells aN_selves aN_cries aN_parts aN_past aS aS_may aS_ways aS_echo aS_echoes A_draft A_reader N_width N_height N_everywhere N_firstColumn N_lastColumn N_makers N_leaves N_pasts S_land S_maker S_loud S_hour S_bought S_gone S_straight S_all N_grounds N_airs N_kinds N_cells N_selves N_parts S_may S_ways S_echo S_echoes p1 p2 p3 hc14) cv_Ai_makeSound tw558 hl rfl rfl (Nat.le_of_ble_eq_true rfl) rfl rfl rfl ⟨Nat.le_of_ble_eq_true rfl, Nat.le_of_ble_eq_true rfl⟩ ⟨Nat.zero_le _, Nat.zero_le _⟩ [0, 2, 3, 4, 6, 7, 8, 9, 10, 11, 12, 13, 14] [1, 5] [2, 0, 3, 4, 5, 1, 6, 7, 8, 9, 10, 11, 12, 13, 14] rfl rfl rfl (by decide) rfl rfl rfl rfl d_Ai_cost_21 (fun H locs hW => ?_)
    refine lv_aload_n C.1.1 C.1.2.1 d_Ai_cost_24 rfl (lv_at hl 0 rfl) ?_
    refine lv_iload_n C.1.1 C.1.2.1 d_Ai_cost_25 rfl (lv_at hl 1 rfl) ?_
    obtain ⟨x15, hc16, h⟩ := bd_at h
    refine x_callV (ws' := [(aA, .inr (3, [.ref aN, .ref A_draft, .ref aA_images, .ref aA_kept, .ref aS, .ref A_reader, .ref aA_refused, .ref aA_heardBy])), (aA_refused, .inl (gI G, 3, .inl A_refused)), (aN, .inr (0, [.int N_width, .int N_height, .long N_everywhere, .long N_firstColumn, .long N_lastColumn, .ref aN_grounds, .ref aN_airs, .ref aN_tolds, .ref aN_fees, .ref aN_lets, .int N_makers, .ref aN_kinds, .ref aN_cells, .ref aN_selves, .ref aN_cries, .int N_leaves, .ref aN_parts, .int N_pasts, .ref aN_past])), (aN_grounds, .inl (gJ G, 3, .inr (.inl N_grounds))), (aN_airs, .inl (gJ G, 6, .inr (.inl N_airs))), (aN_fees, .inl (gI G, 6, .inl N_fees)), (aN_kinds, .inl (gI G, 6, .inl N_kinds)), (aN_cells, .inl (gI G, 6, .inl N_cells)), (aN_selves, .inl (gI G, 6, .inl N_selves)), (aN_parts, .inl (gI G, 40, .inl N_parts)), (aS, .inr (2, [.ref aN, .int x3, .int x4, .int x5, .int x6, .int x7, .ref aS_may, .ref aS_ways, .ref aS_echo, .ref aS_echoes, .long x12, .long x13])), (aS_may, .inl (gJ G, 21, .inr (.inl x8))), (aS_ways, .inl (gJ G, 21, .inr (.inl x9))), (aS_echo, .inl (gJ G, 21, .inr (.inl x10))), (aS_echoes, .inl (gJ G, 21, .inr (.inl x11)))]) (stk := [.int x15]) (rest := []) (As := [.int p1]) (q0 := 0) C hE hW (c_Ai_costOfSound l G aA aA_images aA_kept aA_refused aA_heardBy aN aN_grounds aN_airs aN_tolds aN_fees aN_lets aN_kinds aN_cells aN_selves aN_cries aN_parts aN_past aS aS_may aS_ways aS_echo aS_echoes A_draft A_reader N_width N_height N_everywhere N_firstColumn N_lastColumn N_makers N_leaves N_pasts aN x3 x4 x5 x6 x7 x12 x13 N_airs N_fees N_selves p1 hc16) cv_Ai_costOfSound tw651 hl rfl rfl (Nat.le_of_ble_eq_true rfl) rfl rfl rfl ⟨Nat.le_of_ble_eq_true rfl, Nat.le_of_ble_eq_true rfl⟩ ⟨Nat.zero_le _, Nat.zero_le _⟩ [0, 2, 4, 5, 8, 10] [1, 3, 6, 7, 9, 11, 12, 13, 14] [9, 0, 10, 1, 11, 12, 2, 3, 13, 4, 14, 5, 6, 7, 8] rfl rfl rfl (by decide) rfl rfl rfl rfl d_Ai_cost_26 (fun H locs hW => ?_)
    obtain rfl := Option.some.inj h
    exact x_iret C hW rfl rfl hQ d_Ai_cost_29
  · replace h := it_t cc h
    refine lv_aload_n C.1.1 C.1.2.1 d_Ai_cost_10 rfl (lv_at hl 0 rfl) ?_
    refine lv_bipush (v := (-2)) C.1.1 C.1.2.1 d_Ai_cost_11 (by decide) ?_
    obtain ⟨⟨x17, x18⟩, hc19, h⟩ := bd_at h
    refine x_callV (ws' := [(aA, .inr (3, [.ref aN, .ref A_draft, .ref aA_images, .ref aA_kept, .ref aS, .ref A_reader, .ref aA_refused, .ref aA_heardBy])), (aA_refused, .inl (gI G, 3, .inl x18)), (aN, .inr (0, [.int N_width, .int N_height, .long N_everywhere, .long N_firstColumn, .long N_lastColumn, .ref aN_grounds, .ref aN_airs, .ref aN_tolds, .ref aN_fees, .ref aN_lets, .int N_makers, .ref aN_kinds, .ref aN_cells, .ref aN_selves, .ref aN_cries, .int N_leaves, .ref aN_parts, .int N_pasts, .ref aN_past])), (aN_grounds, .inl (gJ G, 3, .inr (.inl N_grounds))), (aN_airs, .inl (gJ G, 6, .inr (.inl N_airs))), (aN_fees, .inl (gI G, 6, .inl N_fees)), (aN_kinds, .inl (gI G, 6, .inl N_kinds)), (aN_cells, .inl (gI G, 6, .inl N_cells)), (aN_selves, .inl (gI G, 6, .inl N_selves)), (aN_parts, .inl (gI G, 40, .inl N_parts)), (aS, .inr (2, [.ref S_land, .int S_maker, .int S_loud, .int S_hour, .int S_bought, .int S_gone, .ref aS_may, .ref aS_ways, .ref aS_echo, .ref aS_echoes, .long S_straight, .long S_all])), (aS_may, .inl (gJ G, 21, .inr (.inl S_may))), (aS_ways, .inl (gJ G, 21, .inr (.inl S_ways))), (aS_echo, .inl (gJ G, 21, .inr (.inl S_echo))), (aS_echoes, .inl (gJ G, 21, .inr (.inl S_echoes)))]) (stk := [.int x17]) (rest := []) (As := [.int (-2)]) (q0 := 0) C hE hW (c_Ai_refuse l G aA aA_images aA_kept aA_refused aA_heardBy aN A_draft aS A_reader A_refused (-2) hc19) cv_Ai_refuse tw308 hl rfl rfl (Nat.le_of_ble_eq_true rfl) rfl rfl rfl ⟨Nat.le_of_ble_eq_true rfl, Nat.le_of_ble_eq_true rfl⟩ ⟨Nat.zero_le _, Nat.zero_le _⟩ [0, 1] [2, 3, 4, 5, 6, 7, 8, 9, 10, 11, 12, 13, 14] [13, 14, 0, 1, 2, 3, 4, 5, 6, 7, 8, 9, 10, 11, 12] rfl rfl rfl (by decide) rfl rfl rfl rfl d_Ai_cost_13 (fun H locs hW => ?_)
    obtain rfl := Option.some.inj h
    exact x_iret C hW rfl rfl hQ d_Ai_cost_16
set_option maxHeartbeats 4000000 in
set_option maxRecDepth 100000 in
theorem c_Ai_pick (l : Launch) (G : Gl) (p1 : Int64) (p2 : Int32) {res : Int32} (h : f_Ai_pick p1 p2 = some res) : Ct l y_Ai_pick b_Ai_pick 5 (some .int) 1 22 G [.long p1, .int p2] [] (some (.int res)) [] := by
  refine Ct.mk (by decide) (Nat.le_of_ble_eq_true rfl) ?_
  intro p e s m args below meth c ls A Q C hE hW hl hQ
  have C : Cx p s args m c meth "LentAir" y_Ai_pick b_Ai_pick 5 (some .int) := C
  have hl : lv_has ls 5 [(0, .long p1), (2, .int p2)] := hl
  unfold f_Ai_pick at h
  refine lv_iload_n C.1.1 C.1.2.1 d_Ai_pick_0 rfl (lv_at hl 1 rfl) ?_
  refine lv_iconst (v := (-1)) C.1.1 C.1.2.1 d_Ai_pick_1 (by decide) ?_
  refine lv_icmp_ne (tgt := 10) C.1.1 C.1.2.1 d_Ai_pick_2 (by decide) (fun cc => ?_) (fun cc => ?_)
  · replace h := it_f cc h
    refine lv_iconst (v := 0) C.1.1 C.1.2.1 d_Ai_pick_10 (by decide) ?_
    refine lv_istore_n (lv' := [(3, .int 0), (0, .long p1), (2, .int p2)]) C.1.1 C.1.2.1 d_Ai_pick_11 rfl hl (by decide) rfl (fun ls hl => ?_)
    refine lv_iconst (v := 0) C.1.1 C.1.2.1 d_Ai_pick_12 (by decide) ?_
    refine lv_istore (lv' := [(4, .int 0), (3, .int 0), (0, .long p1), (2, .int p2)]) C.1.1 C.1.2.1 d_Ai_pick_13 hl (by decide) rfl (fun ls hl => ?_)
    refine lp_at (P := fun ((x1, x2) : Int32 × Int32) => ∀ (H : Heap) (locs : List Loc) (ls : Array Slot), Wd G A s.heap H locs [] → lv_has ls 5 [(0, .long p1), (2, .int p2), (3, .int x1), (4, .int x2)] → W p l e (RM 1 22) s m args below meth c H locs 0 0 Q (F0 m 15 ls [])) ?_ FU _ h _ _ _ hW (lv_sub hl [2, 3, 1, 0] rfl)
    clear h hl hW
    intro rec15 ih15
    intro x h
    obtain ⟨x1, x2⟩ := x
    unfold f_Ai_pick_L15 at h
    intro H locs ls hW hl
    refine lv_iload C.1.1 C.1.2.1 d_Ai_pick_15 (lv_at hl 3 rfl) ?_
    refine lv_bipush (v := 36) C.1.1 C.1.2.1 d_Ai_pick_17 (by decide) ?_
    refine lv_icmp_ge (tgt := 48) C.1.1 C.1.2.1 d_Ai_pick_19 (by decide) (fun cc => ?_) (fun cc => ?_)
    · replace h := it_t cc h
      refine lv_bipush (v := (-5)) C.1.1 C.1.2.1 d_Ai_pick_48 (by decide) ?_
      obtain rfl := Option.some.inj h
      exact x_iret C hW rfl rfl hQ d_Ai_pick_50
    · replace h := it_f cc h
      refine lv_lload_n C.1.1 C.1.2.1 d_Ai_pick_22 rfl (lv_at hl 0 rfl) ?_
      refine lv_iload C.1.1 C.1.2.1 d_Ai_pick_23 (lv_at hl 3 rfl) ?_
      obtain ⟨x3, hc4, h⟩ := bd_at h
      refine x_callS (ws' := []) (stk := [.int x3]) (rest := []) (As := [.long p1, .int x2]) C hE hW (c_Ai_hasCell l G p1 x2 hc4) cv_Ai_hasCell tw668 hl rfl rfl (Nat.le_of_ble_eq_true rfl) ⟨Nat.le_of_ble_eq_true rfl, Nat.le_of_ble_eq_true rfl⟩ ⟨Nat.zero_le _, Nat.zero_le _⟩ [] [] [] rfl rfl rfl (by decide) rfl rfl rfl rfl d_Ai_pick_25 (fun H locs hW => ?_)
      refine jn_at (P := fun (x5 : Int32) => ∀ (H : Heap) (locs : List Loc) (ls : Array Slot), Wd G A s.heap H locs [] → lv_has ls 5 [(0, .long p1), (2, .int p2), (3, .int x5), (4, .int x2)] → W p l e (RM 1 22) s m args below meth c H locs 0 0 Q (F0 m 42 ls [])) h ?_ ?_
      · skip
        intro x5 h
        intro H locs ls hW hl
        obtain ⟨x6, ex6⟩ : ∃ y : Int32, y = x2 + 1 := ⟨_, rfl⟩
        replace h := lt_at ex6 h
        refine lv_iinc (v := x6) (lv' := [(4, .int x6), (0, .long p1), (2, .int p2), (3, .int x5)]) C.1.1 C.1.2.1 d_Ai_pick_42 hl (k := 3) rfl (by rw [ex6]; rfl) (by decide) rfl (fun ls hl => ?_)
        refine lv_goto (tgt := 15) C.1.1 C.1.2.1 d_Ai_pick_45 (by decide) ?_
        exact ih15 _ h _ _ _ hW (lv_sub hl [1, 2, 3, 0] rfl)
      · intro J42 hJ42 h
        refine lv_if_eq (tgt := 42) C.1.1 C.1.2.1 d_Ai_pick_28 (by decide) (fun cc => ?_) (fun cc => ?_)
        · replace h := it_t cc h
          exact hJ42 _ h _ _ _ hW (lv_sub hl [0, 1, 2, 3] rfl)
        · replace h := it_f cc h
          refine lv_iload_n C.1.1 C.1.2.1 d_Ai_pick_31 rfl (lv_at hl 2 rfl) ?_
          refine lv_iload_n C.1.1 C.1.2.1 d_Ai_pick_32 rfl (lv_at hl 1 rfl) ?_
          refine lv_icmp_ne (tgt := 39) C.1.1 C.1.2.1 d_Ai_pick_33 (by decide) (fun cc => ?_) (fun cc => ?_)
          · replace h := it_f cc h
            obtain ⟨x7, ex7⟩ : ∃ y : Int32, y = x1 + 1 := ⟨_, rfl⟩
            replace h := lt_at ex7 h
            refine lv_iinc (v := x7) (lv' := [(3, .int x7), (0, .long p1), (2, .int p2), (4, .int x2)]) C.1.1 C.1.2.1 d_Ai_pick_39 hl (k := 2) rfl (by rw [ex7]; rfl) (by decide) rfl (fun ls hl => ?_)
            exact hJ42 _ h _ _ _ hW (lv_sub hl [1, 2, 0, 3] rfl)
          · replace h := it_t cc h
            refine lv_iload C.1.1 C.1.2.1 d_Ai_pick_36 (lv_at hl 3 rfl) ?_
            obtain rfl := Option.some.inj h
            exact x_iret C hW rfl rfl hQ d_Ai_pick_38
  · replace h := it_t cc h
    refine lv_lload_n C.1.1 C.1.2.1 d_Ai_pick_5 rfl (lv_at hl 0 rfl) ?_
    obtain ⟨x8, hc9, h⟩ := bd_at h
    refine x_callS (ws' := []) (stk := [.int x8]) (rest := []) (As := [.long p1]) C hE hW (c_JL_bitCount l G p1 hc9) cv_JL_bitCount tw641 hl rfl rfl (Nat.le_of_ble_eq_true rfl) ⟨Nat.le_of_ble_eq_true rfl, Nat.le_of_ble_eq_true rfl⟩ ⟨Nat.zero_le _, Nat.zero_le _⟩ [] [] [] rfl rfl rfl (by decide) rfl rfl rfl rfl d_Ai_pick_6 (fun H locs hW => ?_)
    obtain rfl := Option.some.inj h
    exact x_iret C hW rfl rfl hQ d_Ai_pick_9
set_option maxHeartbeats 4000000 in
set_option maxRecDepth 100000 in
theorem c_Ai_trespass (l : Launch) (G : Gl) (aA : Nat) (aA_images : Nat) (aA_kept : Nat) (aA_refused : Nat) (aA_heardBy : Nat) (aN : Nat) (aN_grounds : Nat) (aN_airs : Nat) (aN_tolds : Nat) (aN_fees : Nat) (aN_lets : Nat) (aN_kinds : Nat) (aN_cells : Nat) (aN_selves : Nat) (aN_cries : Nat) (aN_parts : Nat) (aN_past : Nat) (aS : Nat) (aS_may : Nat) (aS_ways : Nat) (aS_echo : Nat) (aS_echoes : Nat) (A_draft : Nat) (A_reader : Nat) (N_width : Int32) (N_height : Int32) (N_everywhere : Int64) (N_firstColumn : Int64) (N_lastColumn : Int64) (N_makers : Int32) (N_leaves : Int32) (N_pasts : Int32) (S_land : Nat) (S_maker : Int32) (S_loud : Int32) (S_hour : Int32) (S_bought : Int32) (S_gone : Int32) (S_straight : Int64) (S_all : Int64) (A_refused : Nat → Int32) (N_grounds : Nat → Int64) (N_airs : Nat → Int64) (N_kinds : Nat → Int32) (N_cells : Nat → Int32) (N_selves : Nat → Int32) (N_parts : Nat → Int32) (S_may : Nat → Int64) (S_ways : Nat → Int64) (S_echo : Nat → Int64) (S_echoes : Nat → Int64) (p1 : Int32) (p2 : Int32) (p3 : Int32) (p4 : Int32) {res : Int32 × (Nat → Int32) × Nat × Int32 × Int32 × Int32 × Int32 × Int32 × (Nat → Int64) × (Nat → Int64) × (Nat → Int64) × (Nat → Int64) × Int64 × Int64} (h : f_Ai_trespass aN N_width N_everywhere N_firstColumn N_lastColumn N_makers N_leaves S_land S_maker S_loud S_hour S_bought S_gone S_straight S_all A_refused N_grounds N_airs N_kinds N_cells N_selves N_parts S_may S_ways S_echo S_echoes p1 p2 p3 p4 = some res) : Ct l y_Ai_trespass b_Ai_trespass 9 (some .int) 6 152 G [.ref aA, .int p1, .int p2, .int p3, .int p4] [(aA, .inr (3, [.ref aN, .ref A_draft, .ref aA_images, .ref aA_kept, .ref aS, .ref A_reader, .ref aA_refused, .ref aA_heardBy])), (aA_refused, .inl (gI G, 3, .inl A_refused)), (aN, .inr (0, [.int N_width, .int N_height, .long N_everywhere, .long N_firstColumn, .long N_lastColumn, .ref aN_grounds, .ref aN_airs, .ref aN_tolds, .ref aN_fees, .ref aN_lets, .int N_makers, .ref aN_kinds, .ref aN_cells, .ref aN_selves, .ref aN_cries, .int N_leaves, .ref aN_parts, .int N_pasts, .ref aN_past])), (aN_grounds, .inl (gJ G, 3, .inr (.inl N_grounds))), (aN_airs, .inl (gJ G, 6, .inr (.inl N_airs))), (aN_kinds, .inl (gI G, 6, .inl N_kinds)), (aN_cells, .inl (gI G, 6, .inl N_cells)), (aN_selves, .inl (gI G, 6, .inl N_selves)), (aN_parts, .inl (gI G, 40, .inl N_parts)), (aS, .inr (2, [.ref S_land, .int S_maker, .int S_loud, .int S_hour, .int S_bought, .int S_gone, .ref aS_may, .ref aS_ways, .ref aS_echo, .ref aS_echoes, .long S_straight, .long S_all])), (aS_may, .inl (gJ G, 21, .inr (.inl S_may))), (aS_ways, .inl (gJ G, 21, .inr (.inl S_ways))), (aS_echo, .inl (gJ G, 21, .inr (.inl S_echo))), (aS_echoes, .inl (gJ G, 21, .inr (.inl S_echoes)))] (some (.int res.1)) [(aA, .inr (3, [.ref aN, .ref A_draft, .ref aA_images, .ref aA_kept, .ref aS, .ref A_reader, .ref aA_refused, .ref aA_heardBy])), (aA_refused, .inl (gI G, 3, .inl (res.2.1))), (aN, .inr (0, [.int N_width, .int N_height, .long N_everywhere, .long N_firstColumn, .long N_lastColumn, .ref aN_grounds, .ref aN_airs, .ref aN_tolds, .ref aN_fees, .ref aN_lets, .int N_makers, .ref aN_kinds, .ref aN_cells, .ref aN_selves, .ref aN_cries, .int N_leaves, .ref aN_parts, .int N_pasts, .ref aN_past])), (aN_grounds, .inl (gJ G, 3, .inr (.inl N_grounds))), (aN_airs, .inl (gJ G, 6, .inr (.inl N_airs))), (aN_kinds, .inl (gI G, 6, .inl N_kinds)), (aN_cells, .inl (gI G, 6, .inl N_cells)), (aN_selves, .inl (gI G, 6, .inl N_selves)), (aN_parts, .inl (gI G, 40, .inl N_parts)), (aS, .inr (2, [.ref (res.2.2.1), .int (res.2.2.2.1), .int (res.2.2.2.2.1), .int (res.2.2.2.2.2.1), .int (res.2.2.2.2.2.2.1), .int (res.2.2.2.2.2.2.2.1), .ref aS_may, .ref aS_ways, .ref aS_echo, .ref aS_echoes, .long (res.2.2.2.2.2.2.2.2.2.2.2.2.1), .long (res.2.2.2.2.2.2.2.2.2.2.2.2.2)])), (aS_may, .inl (gJ G, 21, .inr (.inl (res.2.2.2.2.2.2.2.2.1)))), (aS_ways, .inl (gJ G, 21, .inr (.inl (res.2.2.2.2.2.2.2.2.2.1)))), (aS_echo, .inl (gJ G, 21, .inr (.inl (res.2.2.2.2.2.2.2.2.2.2.1)))), (aS_echoes, .inl (gJ G, 21, .inr (.inl (res.2.2.2.2.2.2.2.2.2.2.2.1))))] := by
  refine Ct.mk (by decide) (Nat.le_of_ble_eq_true rfl) ?_
  intro p e s m args below meth c ls A Q C hE hW hl hQ
  have C : Cx p s args m c meth "LentAir" y_Ai_trespass b_Ai_trespass 9 (some .int) := C
  have hl : lv_has ls 9 [(0, .ref aA), (1, .int p1), (2, .int p2), (3, .int p3), (4, .int p4)] := hl
  unfold f_Ai_trespass at h
  refine lv_aload_n C.1.1 C.1.2.1 d_Ai_trespass_0 rfl (lv_at hl 0 rfl) ?_
  refine lv_iload_n C.1.1 C.1.2.1 d_Ai_trespass_1 rfl (lv_at hl 1 rfl) ?_
  refine lv_iload_n C.1.1 C.1.2.1 d_Ai_trespass_2 rfl (lv_at hl 2 rfl) ?_
  refine lv_iload_n C.1.1 C.1.2.1 d_Ai_trespass_3 rfl (lv_at hl 3 rfl) ?_
  obtain ⟨x1, hc2, h⟩ := bd_at h
  refine x_callV (ws' := [(aA, .inr (3, [.ref aN, .ref A_draft, .ref aA_images, .ref aA_kept, .ref aS, .ref A_reader, .ref aA_refused, .ref aA_heardBy])), (aA_refused, .inl (gI G, 3, .inl A_refused)), (aN, .inr (0, [.int N_width, .int N_height, .long N_everywhere, .long N_firstColumn, .long N_lastColumn, .ref aN_grounds, .ref aN_airs, .ref aN_tolds, .ref aN_fees, .ref aN_lets, .int N_makers, .ref aN_kinds, .ref aN_cells, .ref aN_selves, .ref aN_cries, .int N_leaves, .ref aN_parts, .int N_pasts, .ref aN_past])), (aN_grounds, .inl (gJ G, 3, .inr (.inl N_grounds))), (aN_airs, .inl (gJ G, 6, .inr (.inl N_airs))), (aN_kinds, .inl (gI G, 6, .inl N_kinds)), (aN_cells, .inl (gI G, 6, .inl N_cells)), (aN_selves, .inl (gI G, 6, .inl N_selves)), (aN_parts, .inl (gI G, 40, .inl N_parts)), (aS, .inr (2, [.ref S_land, .int S_maker, .int S_loud, .int S_hour, .int S_bought, .int S_gone, .ref aS_may, .ref aS_ways, .ref aS_echo, .ref aS_echoes, .long S_straight, .long S_all])), (aS_may, .inl (gJ G, 21, .inr (.inl S_may))), (aS_ways, .inl (gJ G, 21, .inr (.inl S_ways))), (aS_echo, .inl (gJ G, 21, .inr (.inl S_echo))), (aS_echoes, .inl (gJ G, 21, .inr (.inl S_echoes)))]) (stk := [.int x1]) (rest := []) (As := [.int p1, .int p2, .int p3]) (q0 := 0) C hE hW (c_Ai_isSound l G aA aA_images aA_kept aA_refused aA_heardBy aN aN_grounds aN_airs aN_tolds aN_fees aN_lets aN_kinds aN_cells aN_selves aN_cries aN_parts aN_past A_draft aS A_reader N_width N_height N_everywhere N_firstColumn N_lastColumn N_makers N_leaves N_pasts p1 p2 p3 hc2) cv_Ai_isSound tw554 hl rfl rfl (Nat.le_of_ble_eq_true rfl) rfl rfl rfl ⟨Nat.le_of_ble_eq_true rfl, Nat.le_of_ble_eq_true rfl⟩ ⟨Nat.zero_le _, Nat.zero_le _⟩ [0, 2] [1, 3, 4, 5, 6, 7, 8, 9, 10, 11, 12, 13] [12, 0, 13, 1, 2, 3, 4, 5, 6, 7, 8, 9, 10, 11] rfl rfl rfl (by decide) rfl rfl rfl rfl d_Ai_trespass_4 (fun H locs hW => ?_)
  refine jn_at (P := fun (_ : Unit) => ∀ (H : Heap) (locs : List Loc) (ls : Array Slot), Wd G A s.heap H locs [(aA, .inr (3, [.ref aN, .ref A_draft, .ref aA_images, .ref aA_kept, .ref aS, .ref A_reader, .ref aA_refused, .ref aA_heardBy])), (aA_refused, .inl (gI G, 3, .inl A_refused)), (aN, .inr (0, [.int N_width, .int N_height, .long N_everywhere, .long N_firstColumn, .long N_lastColumn, .ref aN_grounds, .ref aN_airs, .ref aN_tolds, .ref aN_fees, .ref aN_lets, .int N_makers, .ref aN_kinds, .ref aN_cells, .ref aN_selves, .ref aN_cries, .int N_leaves, .ref aN_parts, .int N_pasts, .ref aN_past])), (aN_grounds, .inl (gJ G, 3, .inr (.inl N_grounds))), (aN_airs, .inl (gJ G, 6, .inr (.inl N_airs))), (aN_kinds, .inl (gI G, 6, .inl N_kinds)), (aN_cells, .inl (gI G, 6, .inl N_cells)), (aN_selves, .inl (gI G, 6, .inl N_selves)), (aN_parts, .inl (gI G, 40, .inl N_parts)), (aS, .inr (2, [.ref S_land, .int S_maker, .int S_loud, .int S_hour, .int S_bought, .int S_gone, .ref aS_may, .ref aS_ways, .ref aS_echo, .ref aS_echoes, .long S_straight, .long S_all])), (aS_may, .inl (gJ G, 21, .inr (.inl S_may))), (aS_ways, .inl (gJ G, 21, .inr (.inl S_ways))), (aS_echo, .inl (gJ G, 21, .inr (.inl S_echo))), (aS_echoes, .inl (gJ G, 21, .inr (.inl S_echoes)))] → lv_has ls 9 [(0, .ref aA)] → W p l e (RM 6 152) s m args below meth c H locs 0 0 Q (F0 m 16 ls [])) h ?_ ?_
  · skip
    intro _ h
    intro H locs ls hW hl
    refine lv_aload_n C.1.1 C.1.2.1 d_Ai_trespass_16 rfl (lv_at hl 0 rfl) ?_
    refine lv_bipush (v := (-2)) C.1.1 C.1.2.1 d_Ai_trespass_17 (by decide) ?_
    refine lv_bipush (v := (-10)) C.1.1 C.1.2.1 d_Ai_trespass_19 (by decide) ?_
    obtain ⟨⟨x3, x4⟩, hc5, h⟩ := bd_at h
    refine x_callV (ws' := [(aA, .inr (3, [.ref aN, .ref A_draft, .ref aA_images, .ref aA_kept, .ref aS, .ref A_reader, .ref aA_refused, .ref aA_heardBy])), (aA_refused, .inl (gI G, 3, .inl x4)), (aN, .inr (0, [.int N_width, .int N_height, .long N_everywhere, .long N_firstColumn, .long N_lastColumn, .ref aN_grounds, .ref aN_airs, .ref aN_tolds, .ref aN_fees, .ref aN_lets, .int N_makers, .ref aN_kinds, .ref aN_cells, .ref aN_selves, .ref aN_cries, .int N_leaves, .ref aN_parts, .int N_pasts, .ref aN_past])), (aN_grounds, .inl (gJ G, 3, .inr (.inl N_grounds))), (aN_airs, .inl (gJ G, 6, .inr (.inl N_airs))), (aN_kinds, .inl (gI G, 6, .inl N_kinds)), (aN_cells, .inl (gI G, 6, .inl N_cells)), (aN_selves, .inl (gI G, 6, .inl N_selves)), (aN_parts, .inl (gI G, 40, .inl N_parts)), (aS, .inr (2, [.ref S_land, .int S_maker, .int S_loud, .int S_hour, .int S_bought, .int S_gone, .ref aS_may, .ref aS_ways, .ref aS_echo, .ref aS_echoes, .long S_straight, .long S_all])), (aS_may, .inl (gJ G, 21, .inr (.inl S_may))), (aS_ways, .inl (gJ G, 21, .inr (.inl S_ways))), (aS_echo, .inl (gJ G, 21, .inr (.inl S_echo))), (aS_echoes, .inl (gJ G, 21, .inr (.inl S_echoes)))]) (stk := [.int x3]) (rest := []) (As := [.int (-2), .int (-10)]) (q0 := 0) C hE hW (c_Ai_refuseAs l G aA aA_images aA_kept aA_refused aA_heardBy aN A_draft aS A_reader A_refused (-2) (-10) hc5) cv_Ai_refuseAs tw312 hl rfl rfl (Nat.le_of_ble_eq_true rfl) rfl rfl rfl ⟨Nat.le_of_ble_eq_true rfl, Nat.le_of_ble_eq_true rfl⟩ ⟨Nat.zero_le _, Nat.zero_le _⟩ [0, 1] [2, 3, 4, 5, 6, 7, 8, 9, 10, 11, 12, 13] [12, 13, 0, 1, 2, 3, 4, 5, 6, 7, 8, 9, 10, 11] rfl rfl rfl (by decide) rfl rfl rfl rfl d_Ai_trespass_21 (fun H locs hW => ?_)
    obtain rfl := Option.some.inj h
    exact x_iret C hW rfl rfl hQ d_Ai_trespass_24
  · intro J16 hJ16 h
    refine lv_if_eq (tgt := 16) C.1.1 C.1.2.1 d_Ai_trespass_7 (by decide) (fun cc => ?_) (fun cc => ?_)
    · replace h := it_t cc h
      exact hJ16 _ h _ _ _ hW (lv_sub hl [0] rfl)
    · replace h := it_f cc h
      refine lv_iload C.1.1 C.1.2.1 d_Ai_trespass_10 (lv_at hl 4 rfl) ?_
      refine lv_iconst (v := (-1)) C.1.1 C.1.2.1 d_Ai_trespass_12 (by decide) ?_
      refine lv_icmp_ge (tgt := 25) C.1.1 C.1.2.1 d_Ai_trespass_13 (by decide) (fun cc => ?_) (fun cc => ?_)
      · replace h := it_t cc h
        refine lv_aload_n C.1.1 C.1.2.1 d_Ai_trespass_25 rfl (lv_at hl 0 rfl) ?_
        refine lv_iload_n C.1.1 C.1.2.1 d_Ai_trespass_26 rfl (lv_at hl 1 rfl) ?_
        refine lv_iload_n C.1.1 C.1.2.1 d_Ai_trespass_27 rfl (lv_at hl 2 rfl) ?_
        refine lv_iload_n C.1.1 C.1.2.1 d_Ai_trespass_28 rfl (lv_at hl 3 rfl) ?_
        obtain ⟨⟨x6, x7, x8, x9, x10, x11, x12, x13, x14, x15, x16⟩, hc17, h⟩ := bd_at h
        refine x_callV (ws' := [(aA, .inr (3, [.ref aN, .ref A_draft, .ref aA_images, .ref aA_kept, .ref aS, .ref A_reader, .ref aA_refused, .ref aA_heardBy])), (aA_refused, .inl (gI G, 3, .inl A_refused)), (aN, .inr (0, [.int N_width, .int N_height, .long N_everywhere, .long N_firstColumn, .long N_lastColumn, .ref aN_grounds, .ref aN_airs, .ref aN_tolds, .ref aN_fees, .ref aN_lets, .int N_makers, .ref aN_kinds, .ref aN_cells, .ref aN_selves, .ref aN_cries, .int N_leaves, .ref aN_parts, .int N_pasts, .ref aN_past])), (aN_grounds, .inl (gJ G, 3, .inr (.inl N_grounds))), (aN_airs, .inl (gJ G, 6, .inr (.inl N_airs))), (aN_kinds, .inl (gI G, 6, .inl N_kinds)), (aN_cells, .inl (gI G, 6, .inl N_cells)), (aN_selves, .inl (gI G, 6, .inl N_selves)), (aN_parts, .inl (gI G, 40, .inl N_parts)), (aS, .inr (2, [.ref aN, .int x6, .int x7, .int x8, .int x9, .int x10, .ref aS_may, .ref aS_ways, .ref aS_echo, .ref aS_echoes, .long x15, .long x16])), (aS_may, .inl (gJ G, 21, .inr (.inl x11))), (aS_ways, .inl (gJ G, 21, .inr (.inl x12))), (aS_echo, .inl (gJ G, 21, .inr (.inl x13))), (aS_echoes, .inl (gJ G, 21, .inr (.inl x14)))]) (stk := []) (rest := []) (As := [.int p1, .int p2, .int p3]) (q0 := 0) C hE hW (c_Ai_makeSound l G aA aA_images aA_kept aA_refused aA_heardBy aN aN_grounds aN_airs aN_tolds aN_fees aN_lets aN_kinds aN_cells aN_selves aN_cries aN_parts aN_past aS aS_may aS_ways aS_echo aS_echoes A_draft A_reader N_width N_height N_everywhere N_firstColumn N_lastColumn N_makers N_leaves N_pasts S_land S_maker S_loud S_hour S_bought S_gone S_straight S_all N_grounds N_airs N_kinds N_cells N_selves N_parts S_may S_ways S_echo S_echoes p1 p2 p3 hc17) cv_Ai_makeSound tw558 hl rfl rfl (Nat.le_of_ble_eq_true rfl) rfl rfl rfl ⟨Nat.le_of_ble_eq_true rfl, Nat.le_of_ble_eq_true rfl⟩ ⟨Nat.zero_le _, Nat.zero_le _⟩ [0, 2, 3, 4, 5, 6, 7, 8, 9, 10, 11, 12, 13] [1] [1, 0, 2, 3, 4, 5, 6, 7, 8, 9, 10, 11, 12, 13] rfl rfl rfl (by decide) rfl rfl rfl rfl d_Ai_trespass_29 (fun H locs hW => ?_)
        refine lv_aload_n C.1.1 C.1.2.1 d_Ai_trespass_32 rfl (lv_at hl 0 rfl) ?_
        refine x_get C hE hW fl_Ai_32 0 rfl rfl d_Ai_trespass_33 ?_
        refine x_get C hE hW fl_Ai_163 9 rfl rfl d_Ai_trespass_36 ?_
        refine lv_lstore (lv' := [(5, .long x15), (0, .ref aA), (1, .int p1), (2, .int p2), (3, .int p3), (4, .int p4)]) C.1.1 C.1.2.1 d_Ai_trespass_39 hl (by decide) rfl (fun ls hl => ?_)
        refine lv_aload_n C.1.1 C.1.2.1 d_Ai_trespass_41 rfl (lv_at hl 1 rfl) ?_
        refine x_get C hE hW fl_Ai_32 0 rfl rfl d_Ai_trespass_42 ?_
        obtain ⟨⟨x18, x19, x20, x21⟩, hc22, h⟩ := bd_at h
        refine x_callV (ws' := [(aA, .inr (3, [.ref aN, .ref A_draft, .ref aA_images, .ref aA_kept, .ref aS, .ref A_reader, .ref aA_refused, .ref aA_heardBy])), (aA_refused, .inl (gI G, 3, .inl A_refused)), (aN, .inr (0, [.int N_width, .int N_height, .long N_everywhere, .long N_firstColumn, .long N_lastColumn, .ref aN_grounds, .ref aN_airs, .ref aN_tolds, .ref aN_fees, .ref aN_lets, .int N_makers, .ref aN_kinds, .ref aN_cells, .ref aN_selves, .ref aN_cries, .int N_leaves, .ref aN_parts, .int N_pasts, .ref aN_past])), (aN_grounds, .inl (gJ G, 3, .inr (.inl N_grounds))), (aN_airs, .inl (gJ G, 6, .inr (.inl N_airs))), (aN_kinds, .inl (gI G, 6, .inl N_kinds)), (aN_cells, .inl (gI G, 6, .inl N_cells)), (aN_selves, .inl (gI G, 6, .inl N_selves)), (aN_parts, .inl (gI G, 40, .inl N_parts)), (aS, .inr (2, [.ref aN, .int x6, .int x7, .int x8, .int x9, .int x10, .ref aS_may, .ref aS_ways, .ref aS_echo, .ref aS_echoes, .long x21, .long x16])), (aS_may, .inl (gJ G, 21, .inr (.inl x19))), (aS_ways, .inl (gJ G, 21, .inr (.inl x20))), (aS_echo, .inl (gJ G, 21, .inr (.inl x13))), (aS_echoes, .inl (gJ G, 21, .inr (.inl x14)))]) (stk := [.long x18]) (rest := []) (As := []) (q0 := 9) C hE hW (c_Sd_straightIfFree l G aN aN_grounds aN_airs aN_tolds aN_fees aN_lets aN_kinds aN_cells aN_selves aN_cries aN_parts aN_past aS aS_may aS_ways aS_echo aS_echoes N_width N_height N_everywhere N_firstColumn N_lastColumn N_makers N_leaves N_pasts x6 x7 x8 x9 x10 x15 x16 N_grounds N_airs N_kinds N_cells N_selves N_parts x11 x12 hc22) cv_Sd_straightIfFree tw660 hl rfl rfl (Nat.le_of_ble_eq_true rfl) rfl rfl rfl ⟨Nat.le_of_ble_eq_true rfl, Nat.le_of_ble_eq_true rfl⟩ ⟨Nat.zero_le _, Nat.zero_le _⟩ [2, 3, 4, 5, 6, 7, 8, 9, 10, 11] [0, 1, 12, 13] [0, 1, 4, 5, 6, 7, 8, 9, 10, 11, 12, 13, 2, 3] rfl rfl rfl (by decide) rfl rfl rfl rfl d_Ai_trespass_45 (fun H locs hW => ?_)
        refine lv_lstore (lv' := [(7, .long x18), (5, .long x15), (0, .ref aA), (1, .int p1), (2, .int p2), (3, .int p3), (4, .int p4)]) C.1.1 C.1.2.1 d_Ai_trespass_48 hl (by decide) rfl (fun ls hl => ?_)
        refine lv_lload C.1.1 C.1.2.1 d_Ai_trespass_50 (lv_at hl 0 rfl) ?_
        refine lv_lload C.1.1 C.1.2.1 d_Ai_trespass_52 (lv_at hl 1 rfl) ?_
        refine lv_ldc2 (own := "LentAir") (v := (-1)) C.1.1 C.1.2.1 C.1.2.2.2.1 (C.w tw664) d_Ai_trespass_54 ?_
        refine lv_lxor C.1.1 C.1.2.1 d_Ai_trespass_57 ?_
        refine lv_land C.1.1 C.1.2.1 d_Ai_trespass_58 ?_
        refine lv_iload C.1.1 C.1.2.1 d_Ai_trespass_59 (lv_at hl 6 rfl) ?_
        obtain ⟨x23, hc24, h⟩ := bd_at h
        refine x_callS (ws' := [(aA, .inr (3, [.ref aN, .ref A_draft, .ref aA_images, .ref aA_kept, .ref aS, .ref A_reader, .ref aA_refused, .ref aA_heardBy])), (aA_refused, .inl (gI G, 3, .inl A_refused)), (aN, .inr (0, [.int N_width, .int N_height, .long N_everywhere, .long N_firstColumn, .long N_lastColumn, .ref aN_grounds, .ref aN_airs, .ref aN_tolds, .ref aN_fees, .ref aN_lets, .int N_makers, .ref aN_kinds, .ref aN_cells, .ref aN_selves, .ref aN_cries, .int N_leaves, .ref aN_parts, .int N_pasts, .ref aN_past])), (aN_grounds, .inl (gJ G, 3, .inr (.inl N_grounds))), (aN_airs, .inl (gJ G, 6, .inr (.inl N_airs))), (aN_kinds, .inl (gI G, 6, .inl N_kinds)), (aN_cells, .inl (gI G, 6, .inl N_cells)), (aN_selves, .inl (gI G, 6, .inl N_selves)), (aN_parts, .inl (gI G, 40, .inl N_parts)), (aS, .inr (2, [.ref aN, .int x6, .int x7, .int x8, .int x9, .int x10, .ref aS_may, .ref aS_ways, .ref aS_echo, .ref aS_echoes, .long x21, .long x16])), (aS_may, .inl (gJ G, 21, .inr (.inl x19))), (aS_ways, .inl (gJ G, 21, .inr (.inl x20))), (aS_echo, .inl (gJ G, 21, .inr (.inl x13))), (aS_echoes, .inl (gJ G, 21, .inr (.inl x14)))]) (stk := [.int x23]) (rest := []) (As := [.long (x18 &&& (x15 ^^^ (-1))), .int p4]) C hE hW (c_Ai_pick l G (x18 &&& (x15 ^^^ (-1))) p4 hc24) cv_Ai_pick tw665 hl rfl rfl (Nat.le_of_ble_eq_true rfl) ⟨Nat.le_of_ble_eq_true rfl, Nat.le_of_ble_eq_true rfl⟩ ⟨Nat.zero_le _, Nat.zero_le _⟩ [] [0, 1, 2, 3, 4, 5, 6, 7, 8, 9, 10, 11, 12, 13] [0, 1, 2, 3, 4, 5, 6, 7, 8, 9, 10, 11, 12, 13] rfl rfl rfl (by decide) rfl rfl rfl rfl d_Ai_trespass_61 (fun H locs hW => ?_)
        obtain rfl := Option.some.inj h
        exact x_iret C hW rfl rfl hQ d_Ai_trespass_64
      · replace h := it_f cc h
        exact hJ16 _ h _ _ _ hW (lv_sub hl [0] rfl)
set_option maxHeartbeats 4000000 in
set_option maxRecDepth 100000 in
theorem c_Ai_carried (l : Launch) (G : Gl) (aA : Nat) (aA_images : Nat) (aA_kept : Nat) (aA_refused : Nat) (aA_heardBy : Nat) (aN : Nat) (aN_grounds : Nat) (aN_airs : Nat) (aN_tolds : Nat) (aN_fees : Nat) (aN_lets : Nat) (aN_kinds : Nat) (aN_cells : Nat) (aN_selves : Nat) (aN_cries : Nat) (aN_parts : Nat) (aN_past : Nat) (aS : Nat) (aS_may : Nat) (aS_ways : Nat) (aS_echo : Nat) (aS_echoes : Nat) (A_draft : Nat) (A_reader : Nat) (N_width : Int32) (N_height : Int32) (N_everywhere : Int64) (N_firstColumn : Int64) (N_lastColumn : Int64) (N_makers : Int32) (N_leaves : Int32) (N_pasts : Int32) (S_land : Nat) (S_maker : Int32) (S_loud : Int32) (S_hour : Int32) (S_bought : Int32) (S_gone : Int32) (S_straight : Int64) (S_all : Int64) (A_refused : Nat → Int32) (N_grounds : Nat → Int64) (N_airs : Nat → Int64) (N_kinds : Nat → Int32) (N_cells : Nat → Int32) (N_selves : Nat → Int32) (N_parts : Nat → Int32) (S_may : Nat → Int64) (S_ways : Nat → Int64) (S_echo : Nat → Int64) (S_echoes : Nat → Int64) (p1 : Int32) (p2 : Int32) (p3 : Int32) (p4 : Int32) {res : Int32 × (Nat → Int32) × Nat × Int32 × Int32 × Int32 × Int32 × Int32 × (Nat → Int64) × (Nat → Int64) × (Nat → Int64) × (Nat → Int64) × Int64 × Int64} (h : f_Ai_carried aN N_width N_everywhere N_firstColumn N_lastColumn N_makers N_leaves S_land S_maker S_loud S_hour S_bought S_gone S_straight S_all A_refused N_grounds N_airs N_kinds N_cells N_selves N_parts S_may S_ways S_echo S_echoes p1 p2 p3 p4 = some res) : Ct l y_Ai_carried b_Ai_carried 5 (some .int) 6 152 G [.ref aA, .int p1, .int p2, .int p3, .int p4] [(aA, .inr (3, [.ref aN, .ref A_draft, .ref aA_images, .ref aA_kept, .ref aS, .ref A_reader, .ref aA_refused, .ref aA_heardBy])), (aA_refused, .inl (gI G, 3, .inl A_refused)), (aN, .inr (0, [.int N_width, .int N_height, .long N_everywhere, .long N_firstColumn, .long N_lastColumn, .ref aN_grounds, .ref aN_airs, .ref aN_tolds, .ref aN_fees, .ref aN_lets, .int N_makers, .ref aN_kinds, .ref aN_cells, .ref aN_selves, .ref aN_cries, .int N_leaves, .ref aN_parts, .int N_pasts, .ref aN_past])), (aN_grounds, .inl (gJ G, 3, .inr (.inl N_grounds))), (aN_airs, .inl (gJ G, 6, .inr (.inl N_airs))), (aN_kinds, .inl (gI G, 6, .inl N_kinds)), (aN_cells, .inl (gI G, 6, .inl N_cells)), (aN_selves, .inl (gI G, 6, .inl N_selves)), (aN_parts, .inl (gI G, 40, .inl N_parts)), (aS, .inr (2, [.ref S_land, .int S_maker, .int S_loud, .int S_hour, .int S_bought, .int S_gone, .ref aS_may, .ref aS_ways, .ref aS_echo, .ref aS_echoes, .long S_straight, .long S_all])), (aS_may, .inl (gJ G, 21, .inr (.inl S_may))), (aS_ways, .inl (gJ G, 21, .inr (.inl S_ways))), (aS_echo, .inl (gJ G, 21, .inr (.inl S_echo))), (aS_echoes, .inl (gJ G, 21, .inr (.inl S_echoes)))] (some (.int res.1)) [(aA, .inr (3, [.ref aN, .ref A_draft, .ref aA_images, .ref aA_kept, .ref aS, .ref A_reader, .ref aA_refused, .ref aA_heardBy])), (aA_refused, .inl (gI G, 3, .inl (res.2.1))), (aN, .inr (0, [.int N_width, .int N_height, .long N_everywhere, .long N_firstColumn, .long N_lastColumn, .ref aN_grounds, .ref aN_airs, .ref aN_tolds, .ref aN_fees, .ref aN_lets, .int N_makers, .ref aN_kinds, .ref aN_cells, .ref aN_selves, .ref aN_cries, .int N_leaves, .ref aN_parts, .int N_pasts, .ref aN_past])), (aN_grounds, .inl (gJ G, 3, .inr (.inl N_grounds))), (aN_airs, .inl (gJ G, 6, .inr (.inl N_airs))), (aN_kinds, .inl (gI G, 6, .inl N_kinds)), (aN_cells, .inl (gI G, 6, .inl N_cells)), (aN_selves, .inl (gI G, 6, .inl N_selves)), (aN_parts, .inl (gI G, 40, .inl N_parts)), (aS, .inr (2, [.ref (res.2.2.1), .int (res.2.2.2.1), .int (res.2.2.2.2.1), .int (res.2.2.2.2.2.1), .int (res.2.2.2.2.2.2.1), .int (res.2.2.2.2.2.2.2.1), .ref aS_may, .ref aS_ways, .ref aS_echo, .ref aS_echoes, .long (res.2.2.2.2.2.2.2.2.2.2.2.2.1), .long (res.2.2.2.2.2.2.2.2.2.2.2.2.2)])), (aS_may, .inl (gJ G, 21, .inr (.inl (res.2.2.2.2.2.2.2.2.1)))), (aS_ways, .inl (gJ G, 21, .inr (.inl (res.2.2.2.2.2.2.2.2.2.1)))), (aS_echo, .inl (gJ G, 21, .inr (.inl (res.2.2.2.2.2.2.2.2.2.2.1)))), (aS_echoes, .inl (gJ G, 21, .inr (.inl (res.2.2.2.2.2.2.2.2.2.2.2.1))))] := by
  refine Ct.mk (by decide) (Nat.le_of_ble_eq_true rfl) ?_
  intro p e s m args below meth c ls A Q C hE hW hl hQ
  have C : Cx p s args m c meth "LentAir" y_Ai_carried b_Ai_carried 5 (some .int) := C
  have hl : lv_has ls 5 [(0, .ref aA), (1, .int p1), (2, .int p2), (3, .int p3), (4, .int p4)] := hl
  unfold f_Ai_carried at h
  refine lv_aload_n C.1.1 C.1.2.1 d_Ai_carried_0 rfl (lv_at hl 0 rfl) ?_
  refine lv_iload_n C.1.1 C.1.2.1 d_Ai_carried_1 rfl (lv_at hl 1 rfl) ?_
  refine lv_iload_n C.1.1 C.1.2.1 d_Ai_carried_2 rfl (lv_at hl 2 rfl) ?_
  refine lv_iload_n C.1.1 C.1.2.1 d_Ai_carried_3 rfl (lv_at hl 3 rfl) ?_
  obtain ⟨x1, hc2, h⟩ := bd_at h
  refine x_callV (ws' := [(aA, .inr (3, [.ref aN, .ref A_draft, .ref aA_images, .ref aA_kept, .ref aS, .ref A_reader, .ref aA_refused, .ref aA_heardBy])), (aA_refused, .inl (gI G, 3, .inl A_refused)), (aN, .inr (0, [.int N_width, .int N_height, .long N_everywhere, .long N_firstColumn, .long N_lastColumn, .ref aN_grounds, .ref aN_airs, .ref aN_tolds, .ref aN_fees, .ref aN_lets, .int N_makers, .ref aN_kinds, .ref aN_cells, .ref aN_selves, .ref aN_cries, .int N_leaves, .ref aN_parts, .int N_pasts, .ref aN_past])), (aN_grounds, .inl (gJ G, 3, .inr (.inl N_grounds))), (aN_airs, .inl (gJ G, 6, .inr (.inl N_airs))), (aN_kinds, .inl (gI G, 6, .inl N_kinds)), (aN_cells, .inl (gI G, 6, .inl N_cells)), (aN_selves, .inl (gI G, 6, .inl N_selves)), (aN_parts, .inl (gI G, 40, .inl N_parts)), (aS, .inr (2, [.ref S_land, .int S_maker, .int S_loud, .int S_hour, .int S_bought, .int S_gone, .ref aS_may, .ref aS_ways, .ref aS_echo, .ref aS_echoes, .long S_straight, .long S_all])), (aS_may, .inl (gJ G, 21, .inr (.inl S_may))), (aS_ways, .inl (gJ G, 21, .inr (.inl S_ways))), (aS_echo, .inl (gJ G, 21, .inr (.inl S_echo))), (aS_echoes, .inl (gJ G, 21, .inr (.inl S_echoes)))]) (stk := [.int x1]) (rest := []) (As := [.int p1, .int p2, .int p3]) (q0 := 0) C hE hW (c_Ai_isSound l G aA aA_images aA_kept aA_refused aA_heardBy aN aN_grounds aN_airs aN_tolds aN_fees aN_lets aN_kinds aN_cells aN_selves aN_cries aN_parts aN_past A_draft aS A_reader N_width N_height N_everywhere N_firstColumn N_lastColumn N_makers N_leaves N_pasts p1 p2 p3 hc2) cv_Ai_isSound tw554 hl rfl rfl (Nat.le_of_ble_eq_true rfl) rfl rfl rfl ⟨Nat.le_of_ble_eq_true rfl, Nat.le_of_ble_eq_true rfl⟩ ⟨Nat.zero_le _, Nat.zero_le _⟩ [0, 2] [1, 3, 4, 5, 6, 7, 8, 9, 10, 11, 12, 13] [12, 0, 13, 1, 2, 3, 4, 5, 6, 7, 8, 9, 10, 11] rfl rfl rfl (by decide) rfl rfl rfl rfl d_Ai_carried_4 (fun H locs hW => ?_)
  refine jn_at (P := fun (_ : Unit) => ∀ (H : Heap) (locs : List Loc) (ls : Array Slot), Wd G A s.heap H locs [(aA, .inr (3, [.ref aN, .ref A_draft, .ref aA_images, .ref aA_kept, .ref aS, .ref A_reader, .ref aA_refused, .ref aA_heardBy])), (aA_refused, .inl (gI G, 3, .inl A_refused)), (aN, .inr (0, [.int N_width, .int N_height, .long N_everywhere, .long N_firstColumn, .long N_lastColumn, .ref aN_grounds, .ref aN_airs, .ref aN_tolds, .ref aN_fees, .ref aN_lets, .int N_makers, .ref aN_kinds, .ref aN_cells, .ref aN_selves, .ref aN_cries, .int N_leaves, .ref aN_parts, .int N_pasts, .ref aN_past])), (aN_grounds, .inl (gJ G, 3, .inr (.inl N_grounds))), (aN_airs, .inl (gJ G, 6, .inr (.inl N_airs))), (aN_kinds, .inl (gI G, 6, .inl N_kinds)), (aN_cells, .inl (gI G, 6, .inl N_cells)), (aN_selves, .inl (gI G, 6, .inl N_selves)), (aN_parts, .inl (gI G, 40, .inl N_parts)), (aS, .inr (2, [.ref S_land, .int S_maker, .int S_loud, .int S_hour, .int S_bought, .int S_gone, .ref aS_may, .ref aS_ways, .ref aS_echo, .ref aS_echoes, .long S_straight, .long S_all])), (aS_may, .inl (gJ G, 21, .inr (.inl S_may))), (aS_ways, .inl (gJ G, 21, .inr (.inl S_ways))), (aS_echo, .inl (gJ G, 21, .inr (.inl S_echo))), (aS_echoes, .inl (gJ G, 21, .inr (.inl S_echoes)))] → lv_has ls 5 [(0, .ref aA)] → W p l e (RM 6 152) s m args below meth c H locs 0 0 Q (F0 m 16 ls [])) h ?_ ?_
  · skip
    intro _ h
    intro H locs ls hW hl
    refine lv_aload_n C.1.1 C.1.2.1 d_Ai_carried_16 rfl (lv_at hl 0 rfl) ?_
    refine lv_bipush (v := (-2)) C.1.1 C.1.2.1 d_Ai_carried_17 (by decide) ?_
    refine lv_bipush (v := (-10)) C.1.1 C.1.2.1 d_Ai_carried_19 (by decide) ?_
    obtain ⟨⟨x3, x4⟩, hc5, h⟩ := bd_at h
    refine x_callV (ws' := [(aA, .inr (3, [.ref aN, .ref A_draft, .ref aA_images, .ref aA_kept, .ref aS, .ref A_reader, .ref aA_refused, .ref aA_heardBy])), (aA_refused, .inl (gI G, 3, .inl x4)), (aN, .inr (0, [.int N_width, .int N_height, .long N_everywhere, .long N_firstColumn, .long N_lastColumn, .ref aN_grounds, .ref aN_airs, .ref aN_tolds, .ref aN_fees, .ref aN_lets, .int N_makers, .ref aN_kinds, .ref aN_cells, .ref aN_selves, .ref aN_cries, .int N_leaves, .ref aN_parts, .int N_pasts, .ref aN_past])), (aN_grounds, .inl (gJ G, 3, .inr (.inl N_grounds))), (aN_airs, .inl (gJ G, 6, .inr (.inl N_airs))), (aN_kinds, .inl (gI G, 6, .inl N_kinds)), (aN_cells, .inl (gI G, 6, .inl N_cells)), (aN_selves, .inl (gI G, 6, .inl N_selves)), (aN_parts, .inl (gI G, 40, .inl N_parts)), (aS, .inr (2, [.ref S_land, .int S_maker, .int S_loud, .int S_hour, .int S_bought, .int S_gone, .ref aS_may, .ref aS_ways, .ref aS_echo, .ref aS_echoes, .long S_straight, .long S_all])), (aS_may, .inl (gJ G, 21, .inr (.inl S_may))), (aS_ways, .inl (gJ G, 21, .inr (.inl S_ways))), (aS_echo, .inl (gJ G, 21, .inr (.inl S_echo))), (aS_echoes, .inl (gJ G, 21, .inr (.inl S_echoes)))]) (stk := [.int x3]) (rest := []) (As := [.int (-2), .int (-10)]) (q0 := 0) C hE hW (c_Ai_refuseAs l G aA aA_images aA_kept aA_refused aA_heardBy aN A_draft aS A_reader A_refused (-2) (-10) hc5) cv_Ai_refuseAs tw312 hl rfl rfl (Nat.le_of_ble_eq_true rfl) rfl rfl rfl ⟨Nat.le_of_ble_eq_true rfl, Nat.le_of_ble_eq_true rfl⟩ ⟨Nat.zero_le _, Nat.zero_le _⟩ [0, 1] [2, 3, 4, 5, 6, 7, 8, 9, 10, 11, 12, 13] [12, 13, 0, 1, 2, 3, 4, 5, 6, 7, 8, 9, 10, 11] rfl rfl rfl (by decide) rfl rfl rfl rfl d_Ai_carried_21 (fun H locs hW => ?_)
    obtain rfl := Option.some.inj h
    exact x_iret C hW rfl rfl hQ d_Ai_carried_24
  · intro J16 hJ16 h
    refine lv_if_eq (tgt := 16) C.1.1 C.1.2.1 d_Ai_carried_7 (by decide) (fun cc => ?_) (fun cc => ?_)
    · replace h := it_t cc h
      exact hJ16 _ h _ _ _ hW (lv_sub hl [0] rfl)
    · replace h := it_f cc h
      refine lv_iload C.1.1 C.1.2.1 d_Ai_carried_10 (lv_at hl 4 rfl) ?_
      refine lv_iconst (v := (-1)) C.1.1 C.1.2.1 d_Ai_carried_12 (by decide) ?_
      refine lv_icmp_ge (tgt := 25) C.1.1 C.1.2.1 d_Ai_carried_13 (by decide) (fun cc => ?_) (fun cc => ?_)
      · replace h := it_t cc h
        refine lv_aload_n C.1.1 C.1.2.1 d_Ai_carried_25 rfl (lv_at hl 0 rfl) ?_
        refine lv_iload_n C.1.1 C.1.2.1 d_Ai_carried_26 rfl (lv_at hl 1 rfl) ?_
        refine lv_iload_n C.1.1 C.1.2.1 d_Ai_carried_27 rfl (lv_at hl 2 rfl) ?_
        refine lv_iload_n C.1.1 C.1.2.1 d_Ai_carried_28 rfl (lv_at hl 3 rfl) ?_
        obtain ⟨⟨x6, x7, x8, x9, x10, x11, x12, x13, x14, x15, x16⟩, hc17, h⟩ := bd_at h
        refine x_callV (ws' := [(aA, .inr (3, [.ref aN, .ref A_draft, .ref aA_images, .ref aA_kept, .ref aS, .ref A_reader, .ref aA_refused, .ref aA_heardBy])), (aA_refused, .inl (gI G, 3, .inl A_refused)), (aN, .inr (0, [.int N_width, .int N_height, .long N_everywhere, .long N_firstColumn, .long N_lastColumn, .ref aN_grounds, .ref aN_airs, .ref aN_tolds, .ref aN_fees, .ref aN_lets, .int N_makers, .ref aN_kinds, .ref aN_cells, .ref aN_selves, .ref aN_cries, .int N_leaves, .ref aN_parts, .int N_pasts, .ref aN_past])), (aN_grounds, .inl (gJ G, 3, .inr (.inl N_grounds))), (aN_airs, .inl (gJ G, 6, .inr (.inl N_airs))), (aN_kinds, .inl (gI G, 6, .inl N_kinds)), (aN_cells, .inl (gI G, 6, .inl N_cells)), (aN_selves, .inl (gI G, 6, .inl N_selves)), (aN_parts, .inl (gI G, 40, .inl N_parts)), (aS, .inr (2, [.ref aN, .int x6, .int x7, .int x8, .int x9, .int x10, .ref aS_may, .ref aS_ways, .ref aS_echo, .ref aS_echoes, .long x15, .long x16])), (aS_may, .inl (gJ G, 21, .inr (.inl x11))), (aS_ways, .inl (gJ G, 21, .inr (.inl x12))), (aS_echo, .inl (gJ G, 21, .inr (.inl x13))), (aS_echoes, .inl (gJ G, 21, .inr (.inl x14)))]) (stk := []) (rest := []) (As := [.int p1, .int p2, .int p3]) (q0 := 0) C hE hW (c_Ai_makeSound l G aA aA_images aA_kept aA_refused aA_heardBy aN aN_grounds aN_airs aN_tolds aN_fees aN_lets aN_kinds aN_cells aN_selves aN_cries aN_parts aN_past aS aS_may aS_ways aS_echo aS_echoes A_draft A_reader N_width N_height N_everywhere N_firstColumn N_lastColumn N_makers N_leaves N_pasts S_land S_maker S_loud S_hour S_bought S_gone S_straight S_all N_grounds N_airs N_kinds N_cells N_selves N_parts S_may S_ways S_echo S_echoes p1 p2 p3 hc17) cv_Ai_makeSound tw558 hl rfl rfl (Nat.le_of_ble_eq_true rfl) rfl rfl rfl ⟨Nat.le_of_ble_eq_true rfl, Nat.le_of_ble_eq_true rfl⟩ ⟨Nat.zero_le _, Nat.zero_le _⟩ [0, 2, 3, 4, 5, 6, 7, 8, 9, 10, 11, 12, 13] [1] [1, 0, 2, 3, 4, 5, 6, 7, 8, 9, 10, 11, 12, 13] rfl rfl rfl (by decide) rfl rfl rfl rfl d_Ai_carried_29 (fun H locs hW => ?_)
        refine lv_aload_n C.1.1 C.1.2.1 d_Ai_carried_32 rfl (lv_at hl 0 rfl) ?_
        refine x_get C hE hW fl_Ai_32 0 rfl rfl d_Ai_carried_33 ?_
        refine x_get C hE hW fl_Ai_147 9 rfl rfl d_Ai_carried_36 ?_
        refine lv_aload_n C.1.1 C.1.2.1 d_Ai_carried_39 rfl (lv_at hl 0 rfl) ?_
        refine x_get C hE hW fl_Ai_32 0 rfl rfl d_Ai_carried_40 ?_
        refine x_get C hE hW fl_Ai_163 9 rfl rfl d_Ai_carried_43 ?_
        refine lv_ldc2 (own := "LentAir") (v := (-1)) C.1.1 C.1.2.1 C.1.2.2.2.1 (C.w tw664) d_Ai_carried_46 ?_
        refine lv_lxor C.1.1 C.1.2.1 d_Ai_carried_49 ?_
        refine lv_land C.1.1 C.1.2.1 d_Ai_carried_50 ?_
        refine lv_iload C.1.1 C.1.2.1 d_Ai_carried_51 (lv_at hl 4 rfl) ?_
        obtain ⟨x18, hc19, h⟩ := bd_at h
        refine x_callS (ws' := [(aA, .inr (3, [.ref aN, .ref A_draft, .ref aA_images, .ref aA_kept, .ref aS, .ref A_reader, .ref aA_refused, .ref aA_heardBy])), (aA_refused, .inl (gI G, 3, .inl A_refused)), (aN, .inr (0, [.int N_width, .int N_height, .long N_everywhere, .long N_firstColumn, .long N_lastColumn, .ref aN_grounds, .ref aN_airs, .ref aN_tolds, .ref aN_fees, .ref aN_lets, .int N_makers, .ref aN_kinds, .ref aN_cells, .ref aN_selves, .ref aN_cries, .int N_leaves, .ref aN_parts, .int N_pasts, .ref aN_past])), (aN_grounds, .inl (gJ G, 3, .inr (.inl N_grounds))), (aN_airs, .inl (gJ G, 6, .inr (.inl N_airs))), (aN_kinds, .inl (gI G, 6, .inl N_kinds)), (aN_cells, .inl (gI G, 6, .inl N_cells)), (aN_selves, .inl (gI G, 6, .inl N_selves)), (aN_parts, .inl (gI G, 40, .inl N_parts)), (aS, .inr (2, [.ref aN, .int x6, .int x7, .int x8, .int x9, .int x10, .ref aS_may, .ref aS_ways, .ref aS_echo, .ref aS_echoes, .long x15, .long x16])), (aS_may, .inl (gJ G, 21, .inr (.inl x11))), (aS_ways, .inl (gJ G, 21, .inr (.inl x12))), (aS_echo, .inl (gJ G, 21, .inr (.inl x13))), (aS_echoes, .inl (gJ G, 21, .inr (.inl x14)))]) (stk := [.int x18]) (rest := []) (As := [.long (x16 &&& (x15 ^^^ (-1))), .int p4]) C hE hW (c_Ai_pick l G (x16 &&& (x15 ^^^ (-1))) p4 hc19) cv_Ai_pick tw665 hl rfl rfl (Nat.le_of_ble_eq_true rfl) ⟨Nat.le_of_ble_eq_true rfl, Nat.le_of_ble_eq_true rfl⟩ ⟨Nat.zero_le _, Nat.zero_le _⟩ [] [0, 1, 2, 3, 4, 5, 6, 7, 8, 9, 10, 11, 12, 13] [0, 1, 2, 3, 4, 5, 6, 7, 8, 9, 10, 11, 12, 13] rfl rfl rfl (by decide) rfl rfl rfl rfl d_Ai_carried_53 (fun H locs hW => ?_)
        obtain rfl := Option.some.inj h
        exact x_iret C hW rfl rfl hQ d_Ai_carried_56
      · replace h := it_f cc h
        exact hJ16 _ h _ _ _ hW (lv_sub hl [0] rfl)
set_option maxHeartbeats 4000000 in
set_option maxRecDepth 100000 in
theorem c_Ai_mend (l : Launch) (G : Gl) (aA : Nat) (aA_images : Nat) (aA_kept : Nat) (aA_refused : Nat) (aA_heardBy : Nat) (aN : Nat) (aN_grounds : Nat) (aN_airs : Nat) (aN_tolds : Nat) (aN_fees : Nat) (aN_lets : Nat) (aN_kinds : Nat) (aN_cells : Nat) (aN_selves : Nat) (aN_cries : Nat) (aN_parts : Nat) (aN_past : Nat) (aS : Nat) (aS_may : Nat) (aS_ways : Nat) (aS_echo : Nat) (aS_echoes : Nat) (A_draft : Nat) (A_reader : Nat) (N_width : Int32) (N_height : Int32) (N_everywhere : Int64) (N_firstColumn : Int64) (N_lastColumn : Int64) (N_makers : Int32) (N_leaves : Int32) (N_pasts : Int32) (S_land : Nat) (S_maker : Int32) (S_loud : Int32) (S_hour : Int32) (S_bought : Int32) (S_gone : Int32) (S_straight : Int64) (S_all : Int64) (A_refused : Nat → Int32) (N_grounds : Nat → Int64) (N_airs : Nat → Int64) (N_kinds : Nat → Int32) (N_cells : Nat → Int32) (N_selves : Nat → Int32) (N_parts : Nat → Int32) (S_may : Nat → Int64) (S_ways : Nat → Int64) (S_echo : Nat → Int64) (S_echoes : Nat → Int64) (p1 : Int32) (p2 : Int32) (p3 : Int32) {res : Int64 × (Nat → Int32) × Nat × Int32 × Int32 × Int32 × Int32 × Int32 × (Nat → Int64) × (Nat → Int64) × (Nat → Int64) × (Nat → Int64) × Int64 × Int64} (h : f_Ai_mend aN N_width N_everywhere N_firstColumn N_lastColumn N_makers N_leaves S_land S_maker S_loud S_hour S_bought S_gone S_straight S_all A_refused N_grounds N_airs N_kinds N_cells N_selves N_parts S_may S_ways S_echo S_echoes p1 p2 p3 = some res) : Ct l y_Ai_mend b_Ai_mend 4 (some .long) 6 152 G [.ref aA, .int p1, .int p2, .int p3] [(aA, .inr (3, [.ref aN, .ref A_draft, .ref aA_images, .ref aA_kept, .ref aS, .ref A_reader, .ref aA_refused, .ref aA_heardBy])), (aA_refused, .inl (gI G, 3, .inl A_refused)), (aN, .inr (0, [.int N_width, .int N_height, .long N_everywhere, .long N_firstColumn, .long N_lastColumn, .ref aN_grounds, .ref aN_airs, .ref aN_tolds, .ref aN_fees, .ref aN_lets, .int N_makers, .ref aN_kinds, .ref aN_cells, .ref aN_selves, .ref aN_cries, .int N_leaves, .ref aN_parts, .int N_pasts, .ref aN_past])), (aN_grounds, .inl (gJ G, 3, .inr (.inl N_grounds))), (aN_airs, .inl (gJ G, 6, .inr (.inl N_airs))), (aN_kinds, .inl (gI G, 6, .inl N_kinds)), (aN_cells, .inl (gI G, 6, .inl N_cells)), (aN_selves, .inl (gI G, 6, .inl N_selves)), (aN_parts, .inl (gI G, 40, .inl N_parts)), (aS, .inr (2, [.ref S_land, .int S_maker, .int S_loud, .int S_hour, .int S_bought, .int S_gone, .ref aS_may, .ref aS_ways, .ref aS_echo, .ref aS_echoes, .long S_straight, .long S_all])), (aS_may, .inl (gJ G, 21, .inr (.inl S_may))), (aS_ways, .inl (gJ G, 21, .inr (.inl S_ways))), (aS_echo, .inl (gJ G, 21, .inr (.inl S_echo))), (aS_echoes, .inl (gJ G, 21, .inr (.inl S_echoes)))] (some (.long res.1)) [(aA, .inr (3, [.ref aN, .ref A_draft, .ref aA_images, .ref aA_kept, .ref aS, .ref A_reader, .ref aA_refused, .ref aA_heardBy])), (aA_refused, .inl (gI G, 3, .inl (res.2.1))), (aN, .inr (0, [.int N_width, .int N_height, .long N_everywhere, .long N_firstColumn, .long N_lastColumn, .ref aN_grounds, .ref aN_airs, .ref aN_tolds, .ref aN_fees, .ref aN_lets, .int N_makers, .ref aN_kinds, .ref aN_cells, .ref aN_selves, .ref aN_cries, .int N_leaves, .ref aN_parts, .int N_pasts, .ref aN_past])), (aN_grounds, .inl (gJ G, 3, .inr (.inl N_grounds))), (aN_airs, .inl (gJ G, 6, .inr (.inl N_airs))), (aN_kinds, .inl (gI G, 6, .inl N_kinds)), (aN_cells, .inl (gI G, 6, .inl N_cells)), (aN_selves, .inl (gI G, 6, .inl N_selves)), (aN_parts, .inl (gI G, 40, .inl N_parts)), (aS, .inr (2, [.ref (res.2.2.1), .int (res.2.2.2.1), .int (res.2.2.2.2.1), .int (res.2.2.2.2.2.1), .int (res.2.2.2.2.2.2.1), .int (res.2.2.2.2.2.2.2.1), .ref aS_may, .ref aS_ways, .ref aS_echo, .ref aS_echoes, .long (res.2.2.2.2.2.2.2.2.2.2.2.2.1), .long (res.2.2.2.2.2.2.2.2.2.2.2.2.2)])), (aS_may, .inl (gJ G, 21, .inr (.inl (res.2.2.2.2.2.2.2.2.1)))), (aS_ways, .inl (gJ G, 21, .inr (.inl (res.2.2.2.2.2.2.2.2.2.1)))), (aS_echo, .inl (gJ G, 21, .inr (.inl (res.2.2.2.2.2.2.2.2.2.2.1)))), (aS_echoes, .inl (gJ G, 21, .inr (.inl (res.2.2.2.2.2.2.2.2.2.2.2.1))))] := by
  refine Ct.mk (by decide) (Nat.le_of_ble_eq_true rfl) ?_
  intro p e s m args below meth c ls A Q C hE hW hl hQ
  have C : Cx p s args m c meth "LentAir" y_Ai_mend b_Ai_mend 4 (some .long) := C
  have hl : lv_has ls 4 [(0, .ref aA), (1, .int p1), (2, .int p2), (3, .int p3)] := hl
  unfold f_Ai_mend at h
  refine lv_aload_n C.1.1 C.1.2.1 d_Ai_mend_0 rfl (lv_at hl 0 rfl) ?_
  refine lv_iload_n C.1.1 C.1.2.1 d_Ai_mend_1 rfl (lv_at hl 1 rfl) ?_
  refine lv_iload_n C.1.1 C.1.2.1 d_Ai_mend_2 rfl (lv_at hl 2 rfl) ?_
  refine lv_iload_n C.1.1 C.1.2.1 d_Ai_mend_3 rfl (lv_at hl 3 rfl) ?_
  obtain ⟨x1, hc2, h⟩ := bd_at h
  refine x_callV (ws' := [(aA, .inr (3, [.ref aN, .ref A_draft, .ref aA_images, .ref aA_kept, .ref aS, .ref A_reader, .ref aA_refused, .ref aA_heardBy])), (aA_refused, .inl (gI G, 3, .inl A_refused)), (aN, .inr (0, [.int N_width, .int N_height, .long N_everywhere, .long N_firstColumn, .long N_lastColumn, .ref aN_grounds, .ref aN_airs, .ref aN_tolds, .ref aN_fees, .ref aN_lets, .int N_makers, .ref aN_kinds, .ref aN_cells, .ref aN_selves, .ref aN_cries, .int N_leaves, .ref aN_parts, .int N_pasts, .ref aN_past])), (aN_grounds, .inl (gJ G, 3, .inr (.inl N_grounds))), (aN_airs, .inl (gJ G, 6, .inr (.inl N_airs))), (aN_kinds, .inl (gI G, 6, .inl N_kinds)), (aN_cells, .inl (gI G, 6, .inl N_cells)), (aN_selves, .inl (gI G, 6, .inl N_selves)), (aN_parts, .inl (gI G, 40, .inl N_parts)), (aS, .inr (2, [.ref S_land, .int S_maker, .int S_loud, .int S_hour, .int S_bought, .int S_gone, .ref aS_may, .ref aS_ways, .ref aS_echo, .ref aS_echoes, .long S_straight, .long S_all])), (aS_may, .inl (gJ G, 21, .inr (.inl S_may))), (aS_ways, .inl (gJ G, 21, .inr (.inl S_ways))), (aS_echo, .inl (gJ G, 21, .inr (.inl S_echo))), (aS_echoes, .inl (gJ G, 21, .inr (.inl S_echoes)))]) (stk := [.int x1]) (rest := []) (As := [.int p1, .int p2, .int p3]) (q0 := 0) C hE hW (c_Ai_isSound l G aA aA_images aA_kept aA_refused aA_heardBy aN aN_grounds aN_airs aN_tolds aN_fees aN_lets aN_kinds aN_cells aN_selves aN_cries aN_parts aN_past A_draft aS A_reader N_width N_height N_everywhere N_firstColumn N_lastColumn N_makers N_leaves N_pasts p1 p2 p3 hc2) cv_Ai_isSound tw554 hl rfl rfl (Nat.le_of_ble_eq_true rfl) rfl rfl rfl ⟨Nat.le_of_ble_eq_true rfl, Nat.le_of_ble_eq_true rfl⟩ ⟨Nat.zero_le _, Nat.zero_le _⟩ [0, 2] [1, 3, 4, 5, 6, 7, 8, 9, 10, 11, 12, 13] [12, 0, 13, 1, 2, 3, 4, 5, 6, 7, 8, 9, 10, 11] rfl rfl rfl (by decide) rfl rfl rfl rfl d_Ai_mend_4 (fun H locs hW => ?_)
  refine lv_if_ne (tgt := 20) C.1.1 C.1.2.1 d_Ai_mend_7 (by decide) (fun cc => ?_) (fun cc => ?_)
  · replace h := it_f cc h
    refine lv_aload_n C.1.1 C.1.2.1 d_Ai_mend_20 rfl (lv_at hl 0 rfl) ?_
    refine x_get C hE hW fl_Ai_12 0 rfl rfl d_Ai_mend_21 ?_
    refine x_get C hE hW fl_Ai_62 2 rfl rfl d_Ai_mend_24 ?_
    refine lv_iconst (v := 2) C.1.1 C.1.2.1 d_Ai_mend_27 (by decide) ?_
    refine x_lald C hE hW 3 rfl (inB_in (by decide)) d_Ai_mend_28 ?_
    obtain ⟨x3, hc4, h⟩ := bd_at h
    refine x_callS (ws' := [(aA, .inr (3, [.ref aN, .ref A_draft, .ref aA_images, .ref aA_kept, .ref aS, .ref A_reader, .ref aA_refused, .ref aA_heardBy])), (aA_refused, .inl (gI G, 3, .inl A_refused)), (aN, .inr (0, [.int N_width, .int N_height, .long N_everywhere, .long N_firstColumn, .long N_lastColumn, .ref aN_grounds, .ref aN_airs, .ref aN_tolds, .ref aN_fees, .ref aN_lets, .int N_makers, .ref aN_kinds, .ref aN_cells, .ref aN_selves, .ref aN_cries, .int N_leaves, .ref aN_parts, .int N_pasts, .ref aN_past])), (aN_grounds, .inl (gJ G, 3, .inr (.inl N_grounds))), (aN_airs, .inl (gJ G, 6, .inr (.inl N_airs))), (aN_kinds, .inl (gI G, 6, .inl N_kinds)), (aN_cells, .inl (gI G, 6, .inl N_cells)), (aN_selves, .inl (gI G, 6, .inl N_selves)), (aN_parts, .inl (gI G, 40, .inl N_parts)), (aS, .inr (2, [.ref S_land, .int S_maker, .int S_loud, .int S_hour, .int S_bought, .int S_gone, .ref aS_may, .ref aS_ways, .ref aS_echo, .ref aS_echoes, .long S_straight, .long S_all])), (aS_may, .inl (gJ G, 21, .inr (.inl S_may))), (aS_ways, .inl (gJ G, 21, .inr (.inl S_ways))), (aS_echo, .inl (gJ G, 21, .inr (.inl S_echo))), (aS_echoes, .inl (gJ G, 21, .inr (.inl S_echoes)))]) (stk := [.int x3]) (rest := []) (As := [.long (N_grounds (2 : Int32).toNatClampNeg)]) C hE hW (c_JL_bitCount l G (N_grounds (2 : Int32).toNatClampNeg) hc4) cv_JL_bitCount tw641 hl rfl rfl (Nat.le_of_ble_eq_true rfl) ⟨Nat.le_of_ble_eq_true rfl, Nat.le_of_ble_eq_true rfl⟩ ⟨Nat.zero_le _, Nat.zero_le _⟩ [] [0, 1, 2, 3, 4, 5, 6, 7, 8, 9, 10, 11, 12, 13] [0, 1, 2, 3, 4, 5, 6, 7, 8, 9, 10, 11, 12, 13] rfl rfl rfl (by decide) rfl rfl rfl rfl d_Ai_mend_29 (fun H locs hW => ?_)
    refine lv_bipush (v := 8) C.1.1 C.1.2.1 d_Ai_mend_32 (by decide) ?_
    refine lv_icmp_le (tgt := 47) C.1.1 C.1.2.1 d_Ai_mend_34 (by decide) (fun cc => ?_) (fun cc => ?_)
    · replace h := it_t cc h
      refine lv_aload_n C.1.1 C.1.2.1 d_Ai_mend_47 rfl (lv_at hl 0 rfl) ?_
      refine lv_iload_n C.1.1 C.1.2.1 d_Ai_mend_48 rfl (lv_at hl 1 rfl) ?_
      refine lv_iload_n C.1.1 C.1.2.1 d_Ai_mend_49 rfl (lv_at hl 2 rfl) ?_
      refine lv_iload_n C.1.1 C.1.2.1 d_Ai_mend_50 rfl (lv_at hl 3 rfl) ?_
      obtain ⟨⟨x5, x6, x7, x8, x9, x10, x11, x12, x13, x14, x15⟩, hc16, h⟩ := bd_at h
      refine x_callV (ws' := [(aA, .inr (3, [.ref aN, .ref A_draft, .ref aA_images, .ref aA_kept, .ref aS, .ref A_reader, .ref aA_refused, .ref aA_heardBy])), (aA_refused, .inl (gI G, 3, .inl A_refused)), (aN, .inr (0, [.int N_width, .int N_height, .long N_everywhere, .long N_firstColumn, .long N_lastColumn, .ref aN_grounds, .ref aN_airs, .ref aN_tolds, .ref aN_fees, .ref aN_lets, .int N_makers, .ref aN_kinds, .ref aN_cells, .ref aN_selves, .ref aN_cries, .int N_leaves, .ref aN_parts, .int N_pasts, .ref aN_past])), (aN_grounds, .inl (gJ G, 3, .inr (.inl N_grounds))), (aN_airs, .inl (gJ G, 6, .inr (.inl N_airs))), (aN_kinds, .inl (gI G, 6, .inl N_kinds)), (aN_cells, .inl (gI G, 6, .inl N_cells)), (aN_selves, .inl (gI G, 6, .inl N_selves)), (aN_parts, .inl (gI G, 40, .inl N_parts)), (aS, .inr (2, [.ref aN, .int x5, .int x6, .int x7, .int x8, .int x9, .ref aS_may, .ref aS_ways, .ref aS_echo, .ref aS_echoes, .long x14, .long x15])), (aS_may, .inl (gJ G, 21, .inr (.inl x10))), (aS_ways, .inl (gJ G, 21, .inr (.inl x11))), (aS_echo, .inl (gJ G, 21, .inr (.inl x12))), (aS_echoes, .inl (gJ G, 21, .inr (.inl x13)))]) (stk := []) (rest := []) (As := [.int p1, .int p2, .int p3]) (q0 := 0) C hE hW (c_Ai_makeSound l G aA aA_images aA_kept aA_refused aA_heardBy aN aN_grounds aN_airs aN_tolds aN_fees aN_lets aN_kinds aN_cells aN_selves aN_cries aN_parts aN_past aS aS_may aS_ways aS_echo aS_echoes A_draft A_reader N_width N_height N_everywhere N_firstColumn N_lastColumn N_makers N_leaves N_pasts S_land S_maker S_loud S_hour S_bought S_gone S_straight S_all N_grounds N_airs N_kinds N_cells N_selves N_parts S_may S_ways S_echo S_echoes p1 p2 p3 hc16) cv_Ai_makeSound tw558 hl rfl rfl (Nat.le_of_ble_eq_true rfl) rfl rfl rfl ⟨Nat.le_of_ble_eq_true rfl, Nat.le_of_ble_eq_true rfl⟩ ⟨Nat.zero_le _, Nat.zero_le _⟩ [0, 2, 3, 4, 5, 6, 7, 8, 9, 10, 11, 12, 13] [1] [1, 0, 2, 3, 4, 5, 6, 7, 8, 9, 10, 11, 12, 13] rfl rfl rfl (by decide) rfl rfl rfl rfl d_Ai_mend_51 (fun H locs hW => ?_)
      refine lv_aload_n C.1.1 C.1.2.1 d_Ai_mend_54 rfl (lv_at hl 0 rfl) ?_
      refine x_get C hE hW fl_Ai_32 0 rfl rfl d_Ai_mend_55 ?_
      obtain ⟨⟨x17, x18, x19, x20⟩, hc21, h⟩ := bd_at h
      refine x_callV (ws' := [(aA, .inr (3, [.ref aN, .ref A_draft, .ref aA_images, .ref aA_kept, .ref aS, .ref A_reader, .ref aA_refused, .ref aA_heardBy])), (aA_refused, .inl (gI G, 3, .inl A_refused)), (aN, .inr (0, [.int N_width, .int N_height, .long N_everywhere, .long N_firstColumn, .long N_lastColumn, .ref aN_grounds, .ref aN_airs, .ref aN_tolds, .ref aN_fees, .ref aN_lets, .int N_makers, .ref aN_kinds, .ref aN_cells, .ref aN_selves, .ref aN_cries, .int N_leaves, .ref aN_parts, .int N_pasts, .ref aN_past])), (aN_grounds, .inl (gJ G, 3, .inr (.inl N_grounds))), (aN_airs, .inl (gJ G, 6, .inr (.inl N_airs))), (aN_kinds, .inl (gI G, 6, .inl N_kinds)), (aN_cells, .inl (gI G, 6, .inl N_cells)), (aN_selves, .inl (gI G, 6, .inl N_selves)), (aN_parts, .inl (gI G, 40, .inl N_parts)), (aS, .inr (2, [.ref aN, .int x5, .int x6, .int x7, .int x8, .int x9, .ref aS_may, .ref aS_ways, .ref aS_echo, .ref aS_echoes, .long x14, .long x15])), (aS_may, .inl (gJ G, 21, .inr (.inl x18))), (aS_ways, .inl (gJ G, 21, .inr (.inl x11))), (aS_echo, .inl (gJ G, 21, .inr (.inl x19))), (aS_echoes, .inl (gJ G, 21, .inr (.inl x20)))]) (stk := [.long x17]) (rest := []) (As := []) (q0 := 9) C hE hW (c_Sd_carriers l G aN aN_grounds aN_airs aN_tolds aN_fees aN_lets aN_kinds aN_cells aN_selves aN_cries aN_parts aN_past aS aS_may aS_ways aS_echo aS_echoes N_width N_height N_everywhere N_firstColumn N_lastColumn N_makers N_leaves N_pasts x5 x6 x7 x8 x9 x14 x15 N_grounds N_airs N_cells N_selves N_parts x10 x11 x12 x13 hc21) cv_Sd_carriers tw677 hl rfl rfl (Nat.le_of_ble_eq_true rfl) rfl rfl rfl ⟨Nat.le_of_ble_eq_true rfl, Nat.le_of_ble_eq_true rfl⟩ ⟨Nat.zero_le _, Nat.zero_le _⟩ [2, 3, 4, 6, 7, 8, 9, 10, 11, 12, 13] [0, 1, 5] [0, 1, 3, 4, 5, 2, 6, 7, 8, 9, 10, 11, 12, 13] rfl rfl rfl (by decide) rfl rfl rfl rfl d_Ai_mend_58 (fun H locs hW => ?_)
      obtain rfl := Option.some.inj h
      exact x_lret C hW rfl rfl hQ d_Ai_mend_61
    · replace h := it_f cc h
      refine lv_aload_n C.1.1 C.1.2.1 d_Ai_mend_37 rfl (lv_at hl 0 rfl) ?_
      refine lv_bipush (v := (-3)) C.1.1 C.1.2.1 d_Ai_mend_38 (by decide) ?_
      refine lv_bipush (v := (-20)) C.1.1 C.1.2.1 d_Ai_mend_40 (by decide) ?_
      obtain ⟨⟨x22, x23⟩, hc24, h⟩ := bd_at h
      refine x_callV (ws' := [(aA, .inr (3, [.ref aN, .ref A_draft, .ref aA_images, .ref aA_kept, .ref aS, .ref A_reader, .ref aA_refused, .ref aA_heardBy])), (aA_refused, .inl (gI G, 3, .inl x23)), (aN, .inr (0, [.int N_width, .int N_height, .long N_everywhere, .long N_firstColumn, .long N_lastColumn, .ref aN_grounds, .ref aN_airs, .ref aN_tolds, .ref aN_fees, .ref aN_lets, .int N_makers, .ref aN_kinds, .ref aN_cells, .ref aN_selves, .ref aN_cries, .int N_leaves, .ref aN_parts, .int N_pasts, .ref aN_past])), (aN_grounds, .inl (gJ G, 3, .inr (.inl N_grounds))), (aN_airs, .inl (gJ G, 6, .inr (.inl N_airs))), (aN_kinds, .inl (gI G, 6, .inl N_kinds)), (aN_cells, .inl (gI G, 6, .inl N_cells)), (aN_selves, .inl (gI G, 6, .inl N_selves)), (aN_parts, .inl (gI G, 40, .inl N_parts)), (aS, .inr (2, [.ref S_land, .int S_maker, .int S_loud, .int S_hour, .int S_bought, .int S_gone, .ref aS_may, .ref aS_ways, .ref aS_echo, .ref aS_echoes, .long S_straight, .long S_all])), (aS_may, .inl (gJ G, 21, .inr (.inl S_may))), (aS_ways, .inl (gJ G, 21, .inr (.inl S_ways))), (aS_echo, .inl (gJ G, 21, .inr (.inl S_echo))), (aS_echoes, .inl (gJ G, 21, .inr (.inl S_echoes)))]) (stk := [.int x22]) (rest := []) (As := [.int (-3), .int (-20)]) (q0 := 0) C hE hW (c_Ai_refuseAs l G aA aA_images aA_kept aA_refused aA_heardBy aN A_draft aS A_reader A_refused (-3) (-20) hc24) cv_Ai_refuseAs tw312 hl rfl rfl (Nat.le_of_ble_eq_true rfl) rfl rfl rfl ⟨Nat.le_of_ble_eq_true rfl, Nat.le_of_ble_eq_true rfl⟩ ⟨Nat.zero_le _, Nat.zero_le _⟩ [0, 1] [2, 3, 4, 5, 6, 7, 8, 9, 10, 11, 12, 13] [12, 13, 0, 1, 2, 3, 4, 5, 6, 7, 8, 9, 10, 11] rfl rfl rfl (by decide) rfl rfl rfl rfl d_Ai_mend_42 (fun H locs hW => ?_)
      refine lv_i2l C.1.1 C.1.2.1 d_Ai_mend_45 rfl ?_
      obtain rfl := Option.some.inj h
      exact x_lret C hW rfl rfl hQ d_Ai_mend_46
  · replace h := it_t cc h
    refine lv_aload_n C.1.1 C.1.2.1 d_Ai_mend_10 rfl (lv_at hl 0 rfl) ?_
    refine lv_bipush (v := (-2)) C.1.1 C.1.2.1 d_Ai_mend_11 (by decide) ?_
    refine lv_bipush (v := (-10)) C.1.1 C.1.2.1 d_Ai_mend_13 (by decide) ?_
    obtain ⟨⟨x25, x26⟩, hc27, h⟩ := bd_at h
    refine x_callV (ws' := [(aA, .inr (3, [.ref aN, .ref A_draft, .ref aA_images, .ref aA_kept, .ref aS, .ref A_reader, .ref aA_refused, .ref aA_heardBy])), (aA_refused, .inl (gI G, 3, .inl x26)), (aN, .inr (0, [.int N_width, .int N_height, .long N_everywhere, .long N_firstColumn, .long N_lastColumn, .ref aN_grounds, .ref aN_airs, .ref aN_tolds, .ref aN_fees, .ref aN_lets, .int N_makers, .ref aN_kinds, .ref aN_cells, .ref aN_selves, .ref aN_cries, .int N_leaves, .ref aN_parts, .int N_pasts, .ref aN_past])), (aN_grounds, .inl (gJ G, 3, .inr (.inl N_grounds))), (aN_airs, .inl (gJ G, 6, .inr (.inl N_airs))), (aN_kinds, .inl (gI G, 6, .inl N_kinds)), (aN_cells, .inl (gI G, 6, .inl N_cells)), (aN_selves, .inl (gI G, 6, .inl N_selves)), (aN_parts, .inl (gI G, 40, .inl N_parts)), (aS, .inr (2, [.ref S_land, .int S_maker, .int S_loud, .int S_hour, .int S_bought, .int S_gone, .ref aS_may, .ref aS_ways, .ref aS_echo, .ref aS_echoes, .long S_straight, .long S_all])), (aS_may, .inl (gJ G, 21, .inr (.inl S_may))), (aS_ways, .inl (gJ G, 21, .inr (.inl S_ways))), (aS_echo, .inl (gJ G, 21, .inr (.inl S_echo))), (aS_echoes, .inl (gJ G, 21, .inr (.inl S_echoes)))]) (stk := [.int x25]) (rest := []) (As := [.int (-2), .int (-10)]) (q0 := 0) C hE hW (c_Ai_refuseAs l G aA aA_images aA_kept aA_refused aA_heardBy aN A_draft aS A_reader A_refused (-2) (-10) hc27) cv_Ai_refuseAs tw312 hl rfl rfl (Nat.le_of_ble_eq_true rfl) rfl rfl rfl ⟨Nat.le_of_ble_eq_true rfl, Nat.le_of_ble_eq_true rfl⟩ ⟨Nat.zero_le _, Nat.zero_le _⟩ [0, 1] [2, 3, 4, 5, 6, 7, 8, 9, 10, 11, 12, 13] [12, 13, 0, 1, 2, 3, 4, 5, 6, 7, 8, 9, 10, 11] rfl rfl rfl (by decide) rfl rfl rfl rfl d_Ai_mend_15 (fun H locs hW => ?_)
    refine lv_i2l C.1.1 C.1.2.1 d_Ai_mend_18 rfl ?_
    obtain rfl := Option.some.inj h
    exact x_lret C hW rfl rfl hQ d_Ai_mend_19
set_option maxHeartbeats 4000000 in
set_option maxRecDepth 100000 in
theorem c_Ai_ears (l : Launch) (G : Gl) (aA : Nat) (aA_images : Nat) (aA_kept : Nat) (aA_refused : Nat) (aA_heardBy : Nat) (aN : Nat) (aN_grounds : Nat) (aN_airs : Nat) (aN_tolds : Nat) (aN_fees : Nat) (aN_lets : Nat) (aN_kinds : Nat) (aN_cells : Nat) (aN_selves : Nat) (aN_cries : Nat) (aN_parts : Nat) (aN_past : Nat) (A_draft : Nat) (A_sound : Nat) (A_reader : Nat) (N_width : Int32) (N_height : Int32) (N_everywhere : Int64) (N_firstColumn : Int64) (N_lastColumn : Int64) (N_makers : Int32) (N_leaves : Int32) (N_pasts : Int32) (A_refused : Nat → Int32) (N_tolds : Nat → Int64) (p1 : Int32) (p2 : Int32) {res : Int32 × (Nat → Int32) × (Nat → Int64)} (h : f_Ai_ears N_width N_height A_refused N_tolds p1 p2 = some res) : Ct l y_Ai_ears b_Ai_ears 3 (some .int) 3 70 G [.ref aA, .int p1, .int p2] [(aA, .inr (3, [.ref aN, .ref A_draft, .ref aA_images, .ref aA_kept, .ref A_sound, .ref A_reader, .ref aA_refused, .ref aA_heardBy])), (aA_refused, .inl (gI G, 3, .inl A_refused)), (aN, .inr (0, [.int N_width, .int N_height, .long N_everywhere, .long N_firstColumn, .long N_lastColumn, .ref aN_grounds, .ref aN_airs, .ref aN_tolds, .ref aN_fees, .ref aN_lets, .int N_makers, .ref aN_kinds, .ref aN_cells, .ref aN_selves, .ref aN_cries, .int N_leaves, .ref aN_parts, .int N_pasts, .ref aN_past])), (aN_tolds, .inl (gJ G, 3, .inr (.inl N_tolds)))] (some (.int res.1)) [(aA, .inr (3, [.ref aN, .ref A_draft, .ref aA_images, .ref aA_kept, .ref A_sound, .ref A_reader, .ref aA_refused, .ref aA_heardBy])), (aA_refused, .inl (gI G, 3, .inl (res.2.1))), (aN, .inr (0, [.int N_width, .int N_height, .long N_everywhere, .long N_firstColumn, .long N_lastColumn, .ref aN_grounds, .ref aN_airs, .ref aN_tolds, .ref aN_fees, .ref aN_lets, .int N_makers, .ref aN_kinds, .ref aN_cells, .ref aN_selves, .ref aN_cries, .int N_leaves, .ref aN_parts, .int N_pasts, .ref aN_past])), (aN_tolds, .inl (gJ G, 3, .inr (.inl (res.2.2))))] := by
  refine Ct.mk (by decide) (Nat.le_of_ble_eq_true rfl) ?_
  intro p e s m args below meth c ls A Q C hE hW hl hQ
  have C : Cx p s args m c meth "LentAir" y_Ai_ears b_Ai_ears 3 (some .int) := C
  have hl : lv_has ls 3 [(0, .ref aA), (1, .int p1), (2, .int p2)] := hl
  unfold f_Ai_ears at h
  refine lv_aload_n C.1.1 C.1.2.1 d_Ai_ears_0 rfl (lv_at hl 0 rfl) ?_
  refine lv_iload_n C.1.1 C.1.2.1 d_Ai_ears_1 rfl (lv_at hl 1 rfl) ?_
  obtain ⟨x1, hc2, h⟩ := bd_at h
  refine x_callV (ws' := [(aA, .inr (3, [.ref aN, .ref A_draft, .ref aA_images, .ref aA_kept, .ref A_sound, .ref A_reader, .ref aA_refused, .ref aA_heardBy])), (aA_refused, .inl (gI G, 3, .inl A_refused)), (aN, .inr (0, [.int N_width, .int N_height, .long N_everywhere, .long N_firstColumn, .long N_lastColumn, .ref aN_grounds, .ref aN_airs, .ref aN_tolds, .ref aN_fees, .ref aN_lets, .int N_makers, .ref aN_kinds, .ref aN_cells, .ref aN_selves, .ref aN_cries, .int N_leaves, .ref aN_parts, .int N_pasts, .ref aN_past])), (aN_tolds, .inl (gJ G, 3, .inr (.inl N_tolds)))]) (stk := [.int x1]) (rest := []) (As := [.int p1]) (q0 := 0) C hE hW (c_Ai_isCell l G aA aA_images aA_kept aA_refused aA_heardBy aN aN_grounds aN_airs aN_tolds aN_fees aN_lets aN_kinds aN_cells aN_selves aN_cries aN_parts aN_past A_draft A_sound A_reader N_width N_height N_everywhere N_firstColumn N_lastColumn N_makers N_leaves N_pasts p1 hc2) cv_Ai_isCell tw321 hl rfl rfl (Nat.le_of_ble_eq_true rfl) rfl rfl rfl ⟨Nat.le_of_ble_eq_true rfl, Nat.le_of_ble_eq_true rfl⟩ ⟨Nat.zero_le _, Nat.zero_le _⟩ [0, 2] [1, 3] [2, 0, 3, 1] rfl rfl rfl (by decide) rfl rfl rfl rfl d_Ai_ears_2 (fun H locs hW => ?_)
  refine jn_at (P := fun (_ : Unit) => ∀ (H : Heap) (locs : List Loc) (ls : Array Slot), Wd G A s.heap H locs [(aA, .inr (3, [.ref aN, .ref A_draft, .ref aA_images, .ref aA_kept, .ref A_sound, .ref A_reader, .ref aA_refused, .ref aA_heardBy])), (aA_refused, .inl (gI G, 3, .inl A_refused)), (aN, .inr (0, [.int N_width, .int N_height, .long N_everywhere, .long N_firstColumn, .long N_lastColumn, .ref aN_grounds, .ref aN_airs, .ref aN_tolds, .ref aN_fees, .ref aN_lets, .int N_makers, .ref aN_kinds, .ref aN_cells, .ref aN_selves, .ref aN_cries, .int N_leaves, .ref aN_parts, .int N_pasts, .ref aN_past])), (aN_tolds, .inl (gJ G, 3, .inr (.inl N_tolds)))] → lv_has ls 3 [(0, .ref aA)] → W p l e (RM 3 70) s m args below meth c H locs 0 0 Q (F0 m 17 ls [])) h ?_ ?_
  · skip
    intro _ h
    intro H locs ls hW hl
    refine lv_aload_n C.1.1 C.1.2.1 d_Ai_ears_17 rfl (lv_at hl 0 rfl) ?_
    refine lv_bipush (v := (-2)) C.1.1 C.1.2.1 d_Ai_ears_18 (by decide) ?_
    obtain ⟨⟨x3, x4⟩, hc5, h⟩ := bd_at h
    refine x_callV (ws' := [(aA, .inr (3, [.ref aN, .ref A_draft, .ref aA_images, .ref aA_kept, .ref A_sound, .ref A_reader, .ref aA_refused, .ref aA_heardBy])), (aA_refused, .inl (gI G, 3, .inl x4)), (aN, .inr (0, [.int N_width, .int N_height, .long N_everywhere, .long N_firstColumn, .long N_lastColumn, .ref aN_grounds, .ref aN_airs, .ref aN_tolds, .ref aN_fees, .ref aN_lets, .int N_makers, .ref aN_kinds, .ref aN_cells, .ref aN_selves, .ref aN_cries, .int N_leaves, .ref aN_parts, .int N_pasts, .ref aN_past])), (aN_tolds, .inl (gJ G, 3, .inr (.inl N_tolds)))]) (stk := [.int x3]) (rest := []) (As := [.int (-2)]) (q0 := 0) C hE hW (c_Ai_refuse l G aA aA_images aA_kept aA_refused aA_heardBy aN A_draft A_sound A_reader A_refused (-2) hc5) cv_Ai_refuse tw308 hl rfl rfl (Nat.le_of_ble_eq_true rfl) rfl rfl rfl ⟨Nat.le_of_ble_eq_true rfl, Nat.le_of_ble_eq_true rfl⟩ ⟨Nat.zero_le _, Nat.zero_le _⟩ [0, 1] [2, 3] [2, 3, 0, 1] rfl rfl rfl (by decide) rfl rfl rfl rfl d_Ai_ears_20 (fun H locs hW => ?_)
    obtain rfl := Option.some.inj h
    exact x_iret C hW rfl rfl hQ d_Ai_ears_23
  · intro J17 hJ17 h
    refine lv_if_eq (tgt := 17) C.1.1 C.1.2.1 d_Ai_ears_5 (by decide) (fun cc => ?_) (fun cc => ?_)
    · replace h := it_t cc h
      exact hJ17 _ h _ _ _ hW (lv_sub hl [0] rfl)
    · replace h := it_f cc h
      refine lv_iload_n C.1.1 C.1.2.1 d_Ai_ears_8 rfl (lv_at hl 2 rfl) ?_
      refine lv_if_lt (tgt := 17) C.1.1 C.1.2.1 d_Ai_ears_9 (by decide) (fun cc => ?_) (fun cc => ?_)
      · replace h := it_t cc h
        exact hJ17 _ h _ _ _ hW (lv_sub hl [0] rfl)
      · replace h := it_f cc h
        refine lv_iload_n C.1.1 C.1.2.1 d_Ai_ears_12 rfl (lv_at hl 2 rfl) ?_
        refine lv_iconst (v := 3) C.1.1 C.1.2.1 d_Ai_ears_13 (by decide) ?_
        refine lv_icmp_lt (tgt := 24) C.1.1 C.1.2.1 d_Ai_ears_14 (by decide) (fun cc => ?_) (fun cc => ?_)
        · replace h := it_t cc h
          refine lv_aload_n C.1.1 C.1.2.1 d_Ai_ears_24 rfl (lv_at hl 0 rfl) ?_
          refine x_get C hE hW fl_Ai_12 0 rfl rfl d_Ai_ears_25 ?_
          refine x_get C hE hW fl_Ai_179 2 rfl rfl d_Ai_ears_28 ?_
          refine lv_iload_n C.1.1 C.1.2.1 d_Ai_ears_31 rfl (lv_at hl 1 rfl) ?_
          refine lv_iload_n C.1.1 C.1.2.1 d_Ai_ears_32 rfl (lv_at hl 2 rfl) ?_
          obtain ⟨⟨x6, x7⟩, hc8, h⟩ := bd_at h
          refine x_callS (ws' := [(aA, .inr (3, [.ref aN, .ref A_draft, .ref aA_images, .ref aA_kept, .ref A_sound, .ref A_reader, .ref aA_refused, .ref aA_heardBy])), (aA_refused, .inl (gI G, 3, .inl A_refused)), (aN, .inr (0, [.int N_width, .int N_height, .long N_everywhere, .long N_firstColumn, .long N_lastColumn, .ref aN_grounds, .ref aN_airs, .ref aN_tolds, .ref aN_fees, .ref aN_lets, .int N_makers, .ref aN_kinds, .ref aN_cells, .ref aN_selves, .ref aN_cries, .int N_leaves, .ref aN_parts, .int N_pasts, .ref aN_past])), (aN_tolds, .inl (gJ G, 3, .inr (.inl x7)))]) (stk := [.int x6]) (rest := []) (As := [.ref aN_tolds, .int p1, .int p2]) C hE hW (c_Ld_sortInto l G aN_tolds 3 N_tolds p1 p2 hc8) cv_Ld_sortInto tw325 hl rfl rfl (Nat.le_of_ble_eq_true rfl) ⟨Nat.le_of_ble_eq_true rfl, Nat.le_of_ble_eq_true rfl⟩ ⟨Nat.zero_le _, Nat.zero_le _⟩ [3] [0, 1, 2] [0, 1, 2, 3] rfl rfl rfl (by decide) rfl rfl rfl rfl d_Ai_ears_33 (fun H locs hW => ?_)
          obtain rfl := Option.some.inj h
          exact x_iret C hW rfl rfl hQ d_Ai_ears_36
        · replace h := it_f cc h
          exact hJ17 _ h _ _ _ hW (lv_sub hl [0] rfl)
set_option maxHeartbeats 4000000 in
set_option maxRecDepth 100000 in
theorem c_Ai_isEither (l : Launch) (G : Gl) (p1 : Int32) {res : Int32} (h : f_Ai_isEither p1 = some res) : Ct l y_Ai_isEither b_Ai_isEither 1 (some .boolean) 0 0 G [.int p1] [] (some (.int res)) [] := by
  refine Ct.mk (by decide) (Nat.le_of_ble_eq_true rfl) ?_
  intro p e s m args below meth c ls A Q C hE hW hl hQ
  have C : Cx p s args m c meth "LentAir" y_Ai_isEither b_Ai_isEither 1 (some .boolean) := C
  have hl : lv_has ls 1 [(0, .int p1)] := hl
  unfold f_Ai_isEither at h
  refine lv_iload_n C.1.1 C.1.2.1 d_Ai_isEither_0 rfl (lv_at hl 0 rfl) ?_
  refine jn_at (P := fun (_ : Unit) => ∀ (H : Heap) (locs : List Loc) (ls : Array Slot), Wd G A s.heap H locs [] → lv_has ls 1 [] → W p l e (RM 0 0) s m args below meth c H locs 0 0 Q (F0 m 9 ls [])) h ?_ ?_
  · skip
    intro _ h
    intro H locs ls hW hl
    refine lv_iconst (v := 1) C.1.1 C.1.2.1 d_Ai_isEither_9 (by decide) ?_
    refine lv_goto (tgt := 14) C.1.1 C.1.2.1 d_Ai_isEither_10 (by decide) ?_
    obtain rfl := Option.some.inj h
    exact x_zret C hW rfl rfl rfl hQ d_Ai_isEither_14
  · intro J9 hJ9 h
    refine lv_if_eq (tgt := 9) C.1.1 C.1.2.1 d_Ai_isEither_1 (by decide) (fun cc => ?_) (fun cc => ?_)
    · replace h := it_t cc h
      exact hJ9 _ h _ _ _ hW (lv_sub hl [] rfl)
    · replace h := it_f cc h
      refine lv_iload_n C.1.1 C.1.2.1 d_Ai_isEither_4 rfl (lv_at hl 0 rfl) ?_
      refine lv_iconst (v := 1) C.1.1 C.1.2.1 d_Ai_isEither_5 (by decide) ?_
      refine lv_icmp_ne (tgt := 13) C.1.1 C.1.2.1 d_Ai_isEither_6 (by decide) (fun cc => ?_) (fun cc => ?_)
      · replace h := it_f cc h
        refine lv_iconst (v := 0) C.1.1 C.1.2.1 d_Ai_isEither_13 (by decide) ?_
        obtain rfl := Option.some.inj h
        exact x_zret C hW rfl rfl rfl hQ d_Ai_isEither_14
      · replace h := it_t cc h
        exact hJ9 _ h _ _ _ hW (lv_sub hl [] rfl)
set_option maxHeartbeats 4000000 in
set_option maxRecDepth 100000 in
theorem c_Ai_isAsTold (l : Launch) (G : Gl) (aA : Nat) (aA_images : Nat) (aA_kept : Nat) (aA_refused : Nat) (aA_heardBy : Nat) (aN : Nat) (aN_grounds : Nat) (aN_airs : Nat) (aN_tolds : Nat) (aN_fees : Nat) (aN_lets : Nat) (aN_kinds : Nat) (aN_cells : Nat) (aN_selves : Nat) (aN_cries : Nat) (aN_parts : Nat) (aN_past : Nat) (aS : Nat) (aS_may : Nat) (aS_ways : Nat) (aS_echo : Nat) (aS_echoes : Nat) (A_draft : Nat) (A_reader : Nat) (N_width : Int32) (N_height : Int32) (N_everywhere : Int64) (N_firstColumn : Int64) (N_lastColumn : Int64) (N_makers : Int32) (N_leaves : Int32) (N_pasts : Int32) (S_land : Nat) (S_maker : Int32) (S_loud : Int32) (S_hour : Int32) (S_bought : Int32) (S_gone : Int32) (S_straight : Int64) (S_all : Int64) (N_tolds : Nat → Int64) {res : Int32} (h : f_Ai_isAsTold S_all N_tolds = some res) : Ct l y_Ai_isAsTold b_Ai_isAsTold 1 (some .boolean) 0 0 G [.ref aA] [(aA, .inr (3, [.ref aN, .ref A_draft, .ref aA_images, .ref aA_kept, .ref aS, .ref A_reader, .ref aA_refused, .ref aA_heardBy])), (aN, .inr (0, [.int N_width, .int N_height, .long N_everywhere, .long N_firstColumn, .long N_lastColumn, .ref aN_grounds, .ref aN_airs, .ref aN_tolds, .ref aN_fees, .ref aN_lets, .int N_makers, .ref aN_kinds, .ref aN_cells, .ref aN_selves, .ref aN_cries, .int N_leaves, .ref aN_parts, .int N_pasts, .ref aN_past])), (aN_tolds, .inl (gJ G, 3, .inr (.inl N_tolds))), (aS, .inr (2, [.ref S_land, .int S_maker, .int S_loud, .int S_hour, .int S_bought, .int S_gone, .ref aS_may, .ref aS_ways, .ref aS_echo, .ref aS_echoes, .long S_straight, .long S_all]))] (some (.int res)) [(aA, .inr (3, [.ref aN, .ref A_draft, .ref aA_images, .ref aA_kept, .ref aS, .ref A_reader, .ref aA_refused, .ref aA_heardBy])), (aN, .inr (0, [.int N_width, .int N_height, .long N_everywhere, .long N_firstColumn, .long N_lastColumn, .ref aN_grounds, .ref aN_airs, .ref aN_tolds, .ref aN_fees, .ref aN_lets, .int N_makers, .ref aN_kinds, .ref aN_cells, .ref aN_selves, .ref aN_cries, .int N_leaves, .ref aN_parts, .int N_pasts, .ref aN_past])), (aN_tolds, .inl (gJ G, 3, .inr (.inl N_tolds))), (aS, .inr (2, [.ref S_land, .int S_maker, .int S_loud, .int S_hour, .int S_bought, .int S_gone, .ref aS_may, .ref aS_ways, .ref aS_echo, .ref aS_echoes, .long S_straight, .long S_all]))] := by
  refine Ct.mk (by decide) (Nat.le_of_ble_eq_true rfl) ?_
  intro p e s m args below meth c ls A Q C hE hW hl hQ
  have C : Cx p s args m c meth "LentAir" y_Ai_isAsTold b_Ai_isAsTold 1 (some .boolean) := C
  have hl : lv_has ls 1 [(0, .ref aA)] := hl
  unfold f_Ai_isAsTold at h
  refine lv_aload_n C.1.1 C.1.2.1 d_Ai_isAsTold_0 rfl (lv_at hl 0 rfl) ?_
  refine x_get C hE hW fl_Ai_12 0 rfl rfl d_Ai_isAsTold_1 ?_
  refine x_get C hE hW fl_Ai_179 1 rfl rfl d_Ai_isAsTold_4 ?_
  refine lv_iconst (v := 1) C.1.1 C.1.2.1 d_Ai_isAsTold_7 (by decide) ?_
  refine x_lald C hE hW 2 rfl (inB_in (by decide)) d_Ai_isAsTold_8 ?_
  refine lv_aload_n C.1.1 C.1.2.1 d_Ai_isAsTold_9 rfl (lv_at hl 0 rfl) ?_
  refine x_get C hE hW fl_Ai_32 0 rfl rfl d_Ai_isAsTold_10 ?_
  refine x_get C hE hW fl_Ai_147 3 rfl rfl d_Ai_isAsTold_13 ?_
  refine lv_ldc2 (own := "LentAir") (v := (-1)) C.1.1 C.1.2.1 C.1.2.2.2.1 (C.w tw664) d_Ai_isAsTold_16 ?_
  refine lv_lxor C.1.1 C.1.2.1 d_Ai_isAsTold_19 ?_
  refine lv_land C.1.1 C.1.2.1 d_Ai_isAsTold_20 ?_
  refine lv_lconst (v := 0) C.1.1 C.1.2.1 d_Ai_isAsTold_21 (by decide) ?_
  refine W.lcmp C.1.1 C.1.2.1 d_Ai_isAsTold_22 ?_
  refine lv_if_ne (tgt := 52) C.1.1 C.1.2.1 d_Ai_isAsTold_23 (by decide) (fun cc => ?_) (fun cc => ?_)
  · replace h := it_f cc h
    refine lv_iconst (v := 0) C.1.1 C.1.2.1 d_Ai_isAsTold_52 (by decide) ?_
    obtain rfl := Option.some.inj h
    exact x_zret C hW rfl rfl rfl hQ d_Ai_isAsTold_53
  · replace h := it_t cc h
    refine lv_aload_n C.1.1 C.1.2.1 d_Ai_isAsTold_26 rfl (lv_at hl 0 rfl) ?_
    refine x_get C hE hW fl_Ai_12 0 rfl rfl d_Ai_isAsTold_27 ?_
    refine x_get C hE hW fl_Ai_179 1 rfl rfl d_Ai_isAsTold_30 ?_
    refine lv_iconst (v := 2) C.1.1 C.1.2.1 d_Ai_isAsTold_33 (by decide) ?_
    refine x_lald C hE hW 2 rfl (inB_in (by decide)) d_Ai_isAsTold_34 ?_
    refine lv_aload_n C.1.1 C.1.2.1 d_Ai_isAsTold_35 rfl (lv_at hl 0 rfl) ?_
    refine x_get C hE hW fl_Ai_32 0 rfl rfl d_Ai_isAsTold_36 ?_
    refine x_get C hE hW fl_Ai_147 3 rfl rfl d_Ai_isAsTold_39 ?_
    refine lv_land C.1.1 C.1.2.1 d_Ai_isAsTold_42 ?_
    refine lv_lconst (v := 0) C.1.1 C.1.2.1 d_Ai_isAsTold_43 (by decide) ?_
    refine W.lcmp C.1.1 C.1.2.1 d_Ai_isAsTold_44 ?_
    refine lv_if_ne (tgt := 52) C.1.1 C.1.2.1 d_Ai_isAsTold_45 (by decide) (fun cc => ?_) (fun cc => ?_)
    · replace h := it_f cc h
      refine lv_iconst (v := 0) C.1.1 C.1.2.1 d_Ai_isAsTold_52 (by decide) ?_
      obtain rfl := Option.some.inj h
      exact x_zret C hW rfl rfl rfl hQ d_Ai_isAsTold_53
    · replace h := it_t cc h
      refine lv_iconst (v := 1) C.1.1 C.1.2.1 d_Ai_isAsTold_48 (by decide) ?_
      refine lv_goto (tgt := 53) C.1.1 C.1.2.1 d_Ai_isAsTold_49 (by decide) ?_
      obtain rfl := Option.some.inj h
      exact x_zret C hW rfl rfl rfl hQ d_Ai_isAsTold_53
set_option maxHeartbeats 4000000 in
set_option maxRecDepth 100000 in
theorem c_Ai_buy (l : Launch) (G : Gl) (aA : Nat) (aA_images : Nat) (aA_kept : Nat) (aA_refused : Nat) (aA_heardBy : Nat) (aN : Nat) (aN_grounds : Nat) (aN_airs : Nat) (aN_tolds : Nat) (aN_fees : Nat) (aN_lets : Nat) (aN_kinds : Nat) (aN_cells : Nat) (aN_selves : Nat) (aN_cries : Nat) (aN_parts : Nat) (aN_past : Nat) (aS : Nat) (aS_may : Nat) (aS_ways : Nat) (aS_echo : Nat) (aS_echoes : Nat) (A_draft : Nat) (A_reader : Nat) (N_width : Int32) (N_height : Int32) (N_everywhere : Int64) (N_firstColumn : Int64) (N_lastColumn : Int64) (N_makers : Int32) (N_leaves : Int32) (N_pasts : Int32) (S_land : Nat) (S_maker : Int32) (S_loud : Int32) (S_hour : Int32) (S_bought : Int32) (S_gone : Int32) (S_straight : Int64) (S_all : Int64) (A_refused : Nat → Int32) (N_grounds : Nat → Int64) (N_airs : Nat → Int64) (N_tolds : Nat → Int64) (N_fees : Nat → Int32) (N_kinds : Nat → Int32) (N_cells : Nat → Int32) (N_selves : Nat → Int32) (N_parts : Nat → Int32) (S_may : Nat → Int64) (S_ways : Nat → Int64) (S_echo : Nat → Int64) (S_echoes : Nat → Int64) (p1 : Int32) (p2 : Int32) (p3 : Int32) (p4 : Int32) {res : Int32 × (Nat → Int32) × Nat × Int32 × Int32 × Int32 × Int32 × Int32 × (Nat → Int64) × (Nat → Int64) × (Nat → Int64) × (Nat → Int64) × Int64 × Int64} (h : f_Ai_buy aN N_width N_everywhere N_firstColumn N_lastColumn N_makers N_leaves S_land S_maker S_loud S_hour S_bought S_gone S_straight S_all A_refused N_grounds N_airs N_tolds N_fees N_kinds N_cells N_selves N_parts S_may S_ways S_echo S_echoes p1 p2 p3 p4 = some res) : Ct l y_Ai_buy b_Ai_buy 9 (some .int) 5 129 G [.ref aA, .int p1, .int p2, .int p3, .int p4] [(aA, .inr (3, [.ref aN, .ref A_draft, .ref aA_images, .ref aA_kept, .ref aS, .ref A_reader, .ref aA_refused, .ref aA_heardBy])), (aA_refused, .inl (gI G, 3, .inl A_refused)), (aN, .inr (0, [.int N_width, .int N_height, .long N_everywhere, .long N_firstColumn, .long N_lastColumn, .ref aN_grounds, .ref aN_airs, .ref aN_tolds, .ref aN_fees, .ref aN_lets, .int N_makers, .ref aN_kinds, .ref aN_cells, .ref aN_selves, .ref aN_cries, .int N_leaves, .ref aN_parts, .int N_pasts, .ref aN_past])), (aN_grounds, .inl (gJ G, 3, .inr (.inl N_grounds))), (aN_airs, .inl (gJ G, 6, .inr (.inl N_airs))), (aN_tolds, .inl (gJ G, 3, .inr (.inl N_tolds))), (aN_fees, .inl (gI G, 6, .inl N_fees)), (aN_kinds, .inl (gI G, 6, .inl N_kinds)), (aN_cells, .inl (gI G, 6, .inl N_cells)), (aN_selves, .inl (gI G, 6, .inl N_selves)), (aN_parts, .inl (gI G, 40, .inl N_parts)), (aS, .inr (2, [.ref S_land, .int S_maker, .int S_loud, .int S_hour, .int S_bought, .int S_gone, .ref aS_may, .ref aS_ways, .ref aS_echo, .ref aS_echoes, .long S_straight, .long S_all])), (aS_may, .inl (gJ G, 21, .inr (.inl S_may))), (aS_ways, .inl (gJ G, 21, .inr (.inl S_ways))), (aS_echo, .inl (gJ G, 21, .inr (.inl S_echo))), (aS_echoes, .inl (gJ G, 21, .inr (.inl S_echoes)))] (some (.int res.1)) [(aA, .inr (3, [.ref aN, .ref A_draft, .ref aA_images, .ref aA_kept, .ref aS, .ref A_reader, .ref aA_refused, .ref aA_heardBy])), (aA_refused, .inl (gI G, 3, .inl (res.2.1))), (aN, .inr (0, [.int N_width, .int N_height, .long N_everywhere, .long N_firstColumn, .long N_lastColumn, .ref aN_grounds, .ref aN_airs, .ref aN_tolds, .ref aN_fees, .ref aN_lets, .int N_makers, .ref aN_kinds, .ref aN_cells, .ref aN_selves, .ref aN_cries, .int N_leaves, .ref aN_parts, .int N_pasts, .ref aN_past])), (aN_grounds, .inl (gJ G, 3, .inr (.inl N_grounds))), (aN_airs, .inl (gJ G, 6, .inr (.inl N_airs))), (aN_tolds, .inl (gJ G, 3, .inr (.inl N_tolds))), (aN_fees, .inl (gI G, 6, .inl N_fees)), (aN_kinds, .inl (gI G, 6, .inl N_kinds)), (aN_cells, .inl (gI G, 6, .inl N_cells)), (aN_selves, .inl (gI G, 6, .inl N_selves)), (aN_parts, .inl (gI G, 40, .inl N_parts)), (aS, .inr (2, [.ref (res.2.2.1), .int (res.2.2.2.1), .int (res.2.2.2.2.1), .int (res.2.2.2.2.2.1), .int (res.2.2.2.2.2.2.1), .int (res.2.2.2.2.2.2.2.1), .ref aS_may, .ref aS_ways, .ref aS_echo, .ref aS_echoes, .long (res.2.2.2.2.2.2.2.2.2.2.2.2.1), .long (res.2.2.2.2.2.2.2.2.2.2.2.2.2)])), (aS_may, .inl (gJ G, 21, .inr (.inl (res.2.2.2.2.2.2.2.2.1)))), (aS_ways, .inl (gJ G, 21, .inr (.inl (res.2.2.2.2.2.2.2.2.2.1)))), (aS_echo, .inl (gJ G, 21, .inr (.inl (res.2.2.2.2.2.2.2.2.2.2.1)))), (aS_echoes, .inl (gJ G, 21, .inr (.inl (res.2.2.2.2.2.2.2.2.2.2.2.1))))] := by
  refine Ct.mk (by decide) (Nat.le_of_ble_eq_true rfl) ?_
  intro p e s m args below meth c ls A Q C hE hW hl hQ
  have C : Cx p s args m c meth "LentAir" y_Ai_buy b_Ai_buy 9 (some .int) := C
  have hl : lv_has ls 9 [(0, .ref aA), (1, .int p1), (2, .int p2), (3, .int p3), (4, .int p4)] := hl
  unfold f_Ai_buy at h
  refine lv_aload_n C.1.1 C.1.2.1 d_Ai_buy_0 rfl (lv_at hl 0 rfl) ?_
  refine lv_iload_n C.1.1 C.1.2.1 d_Ai_buy_1 rfl (lv_at hl 1 rfl) ?_
  refine lv_iload_n C.1.1 C.1.2.1 d_Ai_buy_2 rfl (lv_at hl 2 rfl) ?_
  refine lv_iload_n C.1.1 C.1.2.1 d_Ai_buy_3 rfl (lv_at hl 3 rfl) ?_
  obtain ⟨x1, hc2, h⟩ := bd_at h
  refine x_callV (ws' := [(aA, .inr (3, [.ref aN, .ref A_draft, .ref aA_images, .ref aA_kept, .ref aS, .ref A_reader, .ref aA_refused, .ref aA_heardBy])), (aA_refused, .inl (gI G, 3, .inl A_refused)), (aN, .inr (0, [.int N_width, .int N_height, .long N_everywhere, .long N_firstColumn, .long N_lastColumn, .ref aN_grounds, .ref aN_airs, .ref aN_tolds, .ref aN_fees, .ref aN_lets, .int N_makers, .ref aN_kinds, .ref aN_cells, .ref aN_selves, .ref aN_cries, .int N_leaves, .ref aN_parts, .int N_pasts, .ref aN_past])), (aN_grounds, .inl (gJ G, 3, .inr (.inl N_grounds))), (aN_airs, .inl (gJ G, 6, .inr (.inl N_airs))), (aN_tolds, .inl (gJ G, 3, .inr (.inl N_tolds))), (aN_fees, .inl (gI G, 6, .inl N_fees)), (aN_kinds, .inl (gI G, 6, .inl N_kinds)), (aN_cells, .inl (gI G, 6, .inl N_cells)), (aN_selves, .inl (gI G, 6, .inl N_selves)), (aN_parts, .inl (gI G, 40, .inl N_parts)), (aS, .inr (2, [.ref S_land, .int S_maker, .int S_loud, .int S_hour, .int S_bought, .int S_gone, .ref aS_may, .ref aS_ways, .ref aS_echo, .ref aS_echoes, .long S_straight, .long S_all])), (aS_may, .inl (gJ G, 21, .inr (.inl S_may))), (aS_ways, .inl (gJ G, 21, .inr (.inl S_ways))), (aS_echo, .inl (gJ G, 21, .inr (.inl S_echo))), (aS_echoes, .inl (gJ G, 21, .inr (.inl S_echoes)))]) (stk := [.int x1]) (rest := []) (As := [.int p1, .int p2, .int p3]) (q0 := 0) C hE hW (c_Ai_isSound l G aA aA_images aA_kept aA_refused aA_heardBy aN aN_grounds aN_airs aN_tolds aN_fees aN_lets aN_kinds aN_cells aN_selves aN_cries aN_parts aN_past A_draft aS A_reader N_width N_height N_everywhere N_firstColumn N_lastColumn N_makers N_leaves N_pasts p1 p2 p3 hc2) cv_Ai_isSound tw554 hl rfl rfl (Nat.le_of_ble_eq_true rfl) rfl rfl rfl ⟨Nat.le_of_ble_eq_true rfl, Nat.le_of_ble_eq_true rfl⟩ ⟨Nat.zero_le _, Nat.zero_le _⟩ [0, 2] [1, 3, 4, 5, 6, 7, 8, 9, 10, 11, 12, 13, 14, 15] [14, 0, 15, 1, 2, 3, 4, 5, 6, 7, 8, 9, 10, 11, 12, 13] rfl rfl rfl (by decide) rfl rfl rfl rfl d_Ai_buy_4 (fun H locs hW => ?_)
  refine jn_at (P := fun (_ : Unit) => ∀ (H : Heap) (locs : List Loc) (ls : Array Slot), Wd G A s.heap H locs [(aA, .inr (3, [.ref aN, .ref A_draft, .ref aA_images, .ref aA_kept, .ref aS, .ref A_reader, .ref aA_refused, .ref aA_heardBy])), (aA_refused, .inl (gI G, 3, .inl A_refused)), (aN, .inr (0, [.int N_width, .int N_height, .long N_everywhere, .long N_firstColumn, .long N_lastColumn, .ref aN_grounds, .ref aN_airs, .ref aN_tolds, .ref aN_fees, .ref aN_lets, .int N_makers, .ref aN_kinds, .ref aN_cells, .ref aN_selves, .ref aN_cries, .int N_leaves, .ref aN_parts, .int N_pasts, .ref aN_past])), (aN_grounds, .inl (gJ G, 3, .inr (.inl N_grounds))), (aN_airs, .inl (gJ G, 6, .inr (.inl N_airs))), (aN_tolds, .inl (gJ G, 3, .inr (.inl N_tolds))), (aN_fees, .inl (gI G, 6, .inl N_fees)), (aN_kinds, .inl (gI G, 6, .inl N_kinds)), (aN_cells, .inl (gI G, 6, .inl N_cells)), (aN_selves, .inl (gI G, 6, .inl N_selves)), (aN_parts, .inl (gI G, 40, .inl N_parts)), (aS, .inr (2, [.ref S_land, .int S_maker, .int S_loud, .int S_hour, .int S_bought, .int S_gone, .ref aS_may, .ref aS_ways, .ref aS_echo, .ref aS_echoes, .long S_straight, .long S_all])), (aS_may, .inl (gJ G, 21, .inr (.inl S_may))), (aS_ways, .inl (gJ G, 21, .inr (.inl S_ways))), (aS_echo, .inl (gJ G, 21, .inr (.inl S_echo))), (aS_echoes, .inl (gJ G, 21, .inr (.inl S_echoes)))] → lv_has ls 9 [(0, .ref aA)] → W p l e (RM 5 129) s m args below meth c H locs 0 0 Q (F0 m 18 ls [])) h ?_ ?_
  · skip
    intro _ h
    intro H locs ls hW hl
    refine lv_aload_n C.1.1 C.1.2.1 d_Ai_buy_18 rfl (lv_at hl 0 rfl) ?_
    refine lv_bipush (v := (-2)) C.1.1 C.1.2.1 d_Ai_buy_19 (by decide) ?_
    refine lv_bipush (v := (-10)) C.1.1 C.1.2.1 d_Ai_buy_21 (by decide) ?_
    obtain ⟨⟨x3, x4⟩, hc5, h⟩ := bd_at h
    refine x_callV (ws' := [(aA, .inr (3, [.ref aN, .ref A_draft, .ref aA_images, .ref aA_kept, .ref aS, .ref A_reader, .ref aA_refused, .ref aA_heardBy])), (aA_refused, .inl (gI G, 3, .inl x4)), (aN, .inr (0, [.int N_width, .int N_height, .long N_everywhere, .long N_firstColumn, .long N_lastColumn, .ref aN_grounds, .ref aN_airs, .ref aN_tolds, .ref aN_fees, .ref aN_lets, .int N_makers, .ref aN_kinds, .ref aN_cells, .ref aN_selves, .ref aN_cries, .int N_leaves, .ref aN_parts, .int N_pasts, .ref aN_past])), (aN_grounds, .inl (gJ G, 3, .inr (.inl N_grounds))), (aN_airs, .inl (gJ G, 6, .inr (.inl N_airs))), (aN_tolds, .inl (gJ G, 3, .inr (.inl N_tolds))), (aN_fees, .inl (gI G, 6, .inl N_fees)), (aN_kinds, .inl (gI G, 6, .inl N_kinds)), (aN_cells, .inl (gI G, 6, .inl N_cells)), (aN_selves, .inl (gI G, 6, .inl N_selves)), (aN_parts, .inl (gI G, 40, .inl N_parts)), (aS, .inr (2, [.ref S_land, .int S_maker, .int S_loud, .int S_hour, .int S_bought, .int S_gone, .ref aS_may, .ref aS_ways, .ref aS_echo, .ref aS_echoes, .long S_straight, .long S_all])), (aS_may, .inl (gJ G, 21, .inr (.inl S_may))), (aS_ways, .inl (gJ G, 21, .inr (.inl S_ways))), (aS_echo, .inl (gJ G, 21, .inr (.inl S_echo))), (aS_echoes, .inl (gJ G, 21, .inr (.inl S_echoes)))]) (stk := [.int x3]) (rest := []) (As := [.int (-2), .int (-10)]) (q0 := 0) C hE hW (c_Ai_refuseAs l G aA aA_images aA_kept aA_refused aA_heardBy aN A_draft aS A_reader A_refused (-2) (-10) hc5) cv_Ai_refuseAs tw312 hl rfl rfl (Nat.le_of_ble_eq_true rfl) rfl rfl rfl ⟨Nat.le_of_ble_eq_true rfl, Nat.le_of_ble_eq_true rfl⟩ ⟨Nat.zero_le _, Nat.zero_le _⟩ [0, 1] [2, 3, 4, 5, 6, 7, 8, 9, 10, 11, 12, 13, 14, 15] [14, 15, 0, 1, 2, 3, 4, 5, 6, 7, 8, 9, 10, 11, 12, 13] rfl rfl rfl (by decide) rfl rfl rfl rfl d_Ai_buy_23 (fun H locs hW => ?_)
    obtain rfl := Option.some.inj h
    exact x_iret C hW rfl rfl hQ d_Ai_buy_26
  · intro J18 hJ18 h
    refine lv_if_eq (tgt := 18) C.1.1 C.1.2.1 d_Ai_buy_7 (by decide) (fun cc => ?_) (fun cc => ?_)
    · replace h := it_t cc h
      exact hJ18 _ h _ _ _ hW (lv_sub hl [0] rfl)
    · replace h := it_f cc h
      refine lv_iload C.1.1 C.1.2.1 d_Ai_buy_10 (lv_at hl 4 rfl) ?_
      obtain ⟨x6, hc7, h⟩ := bd_at h
      refine x_callS (ws' := [(aA, .inr (3, [.ref aN, .ref A_draft, .ref aA_images, .ref aA_kept, .ref aS, .ref A_reader, .ref aA_refused, .ref aA_heardBy])), (aA_refused, .inl (gI G, 3, .inl A_refused)), (aN, .inr (0, [.int N_width, .int N_height, .long N_everywhere, .long N_firstColumn, .long N_lastColumn, .ref aN_grounds, .ref aN_airs, .ref aN_tolds, .ref aN_fees, .ref aN_lets, .int N_makers, .ref aN_kinds, .ref aN_cells, .ref aN_selves, .ref aN_cries, .int N_leaves, .ref aN_parts, .int N_pasts, .ref aN_past])), (aN_grounds, .inl (gJ G, 3, .inr (.inl N_grounds))), (aN_airs, .inl (gJ G, 6, .inr (.inl N_airs))), (aN_tolds, .inl (gJ G, 3, .inr (.inl N_tolds))), (aN_fees, .inl (gI G, 6, .inl N_fees)), (aN_kinds, .inl (gI G, 6, .inl N_kinds)), (aN_cells, .inl (gI G, 6, .inl N_cells)), (aN_selves, .inl (gI G, 6, .inl N_selves)), (aN_parts, .inl (gI G, 40, .inl N_parts)), (aS, .inr (2, [.ref S_land, .int S_maker, .int S_loud, .int S_hour, .int S_bought, .int S_gone, .ref aS_may, .ref aS_ways, .ref aS_echo, .ref aS_echoes, .long S_straight, .long S_all])), (aS_may, .inl (gJ G, 21, .inr (.inl S_may))), (aS_ways, .inl (gJ G, 21, .inr (.inl S_ways))), (aS_echo, .inl (gJ G, 21, .inr (.inl S_echo))), (aS_echoes, .inl (gJ G, 21, .inr (.inl S_echoes)))]) (stk := [.int x6]) (rest := []) (As := [.int p4]) C hE hW (c_Ai_isEither l G p4 hc7) cv_Ai_isEither tw690 hl rfl rfl (Nat.le_of_ble_eq_true rfl) ⟨Nat.le_of_ble_eq_true rfl, Nat.le_of_ble_eq_true rfl⟩ ⟨Nat.zero_le _, Nat.zero_le _⟩ [] [0, 1, 2, 3, 4, 5, 6, 7, 8, 9, 10, 11, 12, 13, 14, 15] [0, 1, 2, 3, 4, 5, 6, 7, 8, 9, 10, 11, 12, 13, 14, 15] rfl rfl rfl (by decide) rfl rfl rfl rfl d_Ai_buy_12 (fun H locs hW => ?_)
      refine lv_if_ne (tgt := 27) C.1.1 C.1.2.1 d_Ai_buy_15 (by decide) (fun cc => ?_) (fun cc => ?_)
      · replace h := it_f cc h
        refine lv_iconst (v := (-1)) C.1.1 C.1.2.1 d_Ai_buy_27 (by decide) ?_
        refine lv_istore (lv' := [(5, .int (-1)), (0, .ref aA), (1, .int p1), (2, .int p2), (3, .int p3), (4, .int p4)]) C.1.1 C.1.2.1 d_Ai_buy_28 hl (by decide) rfl (fun ls hl => ?_)
        refine lv_iconst (v := (-1)) C.1.1 C.1.2.1 d_Ai_buy_30 (by decide) ?_
        refine lv_istore (lv' := [(6, .int (-1)), (5, .int (-1)), (0, .ref aA), (1, .int p1), (2, .int p2), (3, .int p3), (4, .int p4)]) C.1.1 C.1.2.1 d_Ai_buy_31 hl (by decide) rfl (fun ls hl => ?_)
        refine lv_iconst (v := 0) C.1.1 C.1.2.1 d_Ai_buy_33 (by decide) ?_
        refine lv_istore (lv' := [(7, .int 0), (6, .int (-1)), (5, .int (-1)), (0, .ref aA), (1, .int p1), (2, .int p2), (3, .int p3), (4, .int p4)]) C.1.1 C.1.2.1 d_Ai_buy_34 hl (by decide) rfl (fun ls hl => ?_)
        refine jn_at (P := fun ((x8, x9, x10, x11, x12, x13, x14, x15, x16, x17, x18, x19, x20, x21) : Int32 × Int32 × Nat × Int32 × Int32 × Int32 × Int32 × Int32 × (Nat → Int64) × (Nat → Int64) × (Nat → Int64) × (Nat → Int64) × Int64 × Int64) => ∀ (H : Heap) (locs : List Loc) (ls : Array Slot), Wd G A s.heap H locs [(aA, .inr (3, [.ref aN, .ref A_draft, .ref aA_images, .ref aA_kept, .ref aS, .ref A_reader, .ref aA_refused, .ref aA_heardBy])), (aA_refused, .inl (gI G, 3, .inl A_refused)), (aN, .inr (0, [.int N_width, .int N_height, .long N_everywhere, .long N_firstColumn, .long N_lastColumn, .ref aN_grounds, .ref aN_airs, .ref aN_tolds, .ref aN_fees, .ref aN_lets, .int N_makers, .ref aN_kinds, .ref aN_cells, .ref aN_selves, .ref aN_cries, .int N_leaves, .ref aN_parts, .int N_pasts, .ref aN_past])), (aN_grounds, .inl (gJ G, 3, .inr (.inl N_grounds))), (aN_airs, .inl (gJ G, 6, .inr (.inl N_airs))), (aN_tolds, .inl (gJ G, 3, .inr (.inl N_tolds))), (aN_fees, .inl (gI G, 6, .inl N_fees)), (aN_kinds, .inl (gI G, 6, .inl N_kinds)), (aN_cells, .inl (gI G, 6, .inl N_cells)), (aN_selves, .inl (gI G, 6, .inl N_selves)), (aN_parts, .inl (gI G, 40, .inl N_parts)), (aS, .inr (2, [.ref x10, .int x11, .int x12, .int x13, .int x14, .int x15, .ref aS_may, .ref aS_ways, .ref aS_echo, .ref aS_echoes, .long x20, .long x21])), (aS_may, .inl (gJ G, 21, .inr (.inl x16))), (aS_ways, .inl (gJ G, 21, .inr (.inl x17))), (aS_echo, .inl (gJ G, 21, .inr (.inl x18))), (aS_echoes, .inl (gJ G, 21, .inr (.inl x19)))] → lv_has ls 9 [(4, .int p4), (5, .int x8), (6, .int x9)] → W p l e (RM 5 129) s m args below meth c H locs 0 0 Q (F0 m 121 ls [])) h ?_ ?_
        · skip
          intro x h
          obtain ⟨x8, x9, x10, x11, x12, x13, x14, x15, x16, x17, x18, x19, x20, x21⟩ := x
          intro H locs ls hW hl
          refine lv_iload C.1.1 C.1.2.1 d_Ai_buy_121 (lv_at hl 0 rfl) ?_
          refine lv_if_ne (tgt := 131) C.1.1 C.1.2.1 d_Ai_buy_123 (by decide) (fun cc => ?_) (fun cc => ?_)
          · replace h := it_f cc h
            refine lv_iload C.1.1 C.1.2.1 d_Ai_buy_131 (lv_at hl 2 rfl) ?_
            obtain rfl := Option.some.inj h
            exact x_iret C hW rfl rfl hQ d_Ai_buy_133
          · replace h := it_t cc h
            refine lv_iload C.1.1 C.1.2.1 d_Ai_buy_126 (lv_at hl 1 rfl) ?_
            refine lv_goto (tgt := 133) C.1.1 C.1.2.1 d_Ai_buy_128 (by decide) ?_
            obtain rfl := Option.some.inj h
            exact x_iret C hW rfl rfl hQ d_Ai_buy_133
        · intro J121 hJ121 h
          refine lp_at (P := fun ((x22, x23, x24, x25, x26, x27, x28, x29, x30, x31, x32, x33, x34, x35, x36) : Int32 × Int32 × Int32 × Nat × Int32 × Int32 × Int32 × Int32 × Int32 × (Nat → Int64) × (Nat → Int64) × (Nat → Int64) × (Nat → Int64) × Int64 × Int64) => ∀ (H : Heap) (locs : List Loc) (ls : Array Slot), Wd G A s.heap H locs [(aA, .inr (3, [.ref aN, .ref A_draft, .ref aA_images, .ref aA_kept, .ref aS, .ref A_reader, .ref aA_refused, .ref aA_heardBy])), (aA_refused, .inl (gI G, 3, .inl A_refused)), (aN, .inr (0, [.int N_width, .int N_height, .long N_everywhere, .long N_firstColumn, .long N_lastColumn, .ref aN_grounds, .ref aN_airs, .ref aN_tolds, .ref aN_fees, .ref aN_lets, .int N_makers, .ref aN_kinds, .ref aN_cells, .ref aN_selves, .ref aN_cries, .int N_leaves, .ref aN_parts, .int N_pasts, .ref aN_past])), (aN_grounds, .inl (gJ G, 3, .inr (.inl N_grounds))), (aN_airs, .inl (gJ G, 6, .inr (.inl N_airs))), (aN_tolds, .inl (gJ G, 3, .inr (.inl N_tolds))), (aN_fees, .inl (gI G, 6, .inl N_fees)), (aN_kinds, .inl (gI G, 6, .inl N_kinds)), (aN_cells, .inl (gI G, 6, .inl N_cells)), (aN_selves, .inl (gI G, 6, .inl N_selves)), (aN_parts, .inl (gI G, 40, .inl N_parts)), (aS, .inr (2, [.ref x25, .int x26, .int x27, .int x28, .int x29, .int x30, .ref aS_may, .ref aS_ways, .ref aS_echo, .ref aS_echoes, .long x35, .long x36])), (aS_may, .inl (gJ G, 21, .inr (.inl x31))), (aS_ways, .inl (gJ G, 21, .inr (.inl x32))), (aS_echo, .inl (gJ G, 21, .inr (.inl x33))), (aS_echoes, .inl (gJ G, 21, .inr (.inl x34)))] → lv_has ls 9 [(0, .ref aA), (1, .int p1), (2, .int p2), (3, .int p3), (4, .int p4), (5, .int x22), (6, .int x23), (7, .int x24)] → W p l e (RM 5 129) s m args below meth c H locs 0 0 Q (F0 m 36 ls [])) ?_ FU _ h _ _ _ hW (lv_sub hl [3, 4, 5, 6, 7, 2, 1, 0] rfl)
          clear h hl hW
          intro rec36 ih36
          intro x h
          obtain ⟨x22, x23, x24, x25, x26, x27, x28, x29, x30, x31, x32, x33, x34, x35, x36⟩ := x
          unfold f_Ai_buy_L36 at h
          intro H locs ls hW hl
          refine lv_iload C.1.1 C.1.2.1 d_Ai_buy_36 (lv_at hl 7 rfl) ?_
          refine lv_bipush (v := 64) C.1.1 C.1.2.1 d_Ai_buy_38 (by decide) ?_
          refine lv_icmp_ge (tgt := 121) C.1.1 C.1.2.1 d_Ai_buy_40 (by decide) (fun cc => ?_) (fun cc => ?_)
          · replace h := it_t cc h
            exact hJ121 _ h _ _ _ hW (lv_sub hl [4, 5, 6] rfl)
          · replace h := it_f cc h
            refine lv_iload C.1.1 C.1.2.1 d_Ai_buy_43 (lv_at hl 7 rfl) ?_
            refine lv_aload_n C.1.1 C.1.2.1 d_Ai_buy_45 rfl (lv_at hl 0 rfl) ?_
            refine x_get C hE hW fl_Ai_12 0 rfl rfl d_Ai_buy_46 ?_
            refine x_get C hE hW fl_Ai_185 2 rfl rfl d_Ai_buy_49 ?_
            refine lv_iload_n C.1.1 C.1.2.1 d_Ai_buy_52 rfl (lv_at hl 1 rfl) ?_
            obtain ⟨hg, h⟩ := gd_at h
            refine x_iald C hE hW 9 rfl (inB_in hg) d_Ai_buy_53 ?_
            refine lv_ishr C.1.1 C.1.2.1 d_Ai_buy_54 ?_
            refine lv_iconst (v := 1) C.1.1 C.1.2.1 d_Ai_buy_55 (by decide) ?_
            refine lv_iand C.1.1 C.1.2.1 d_Ai_buy_56 ?_
            refine jn_at (P := fun ((x37, x38, x39, x40, x41, x42, x43, x44, x45, x46, x47, x48, x49, x50) : Int32 × Int32 × Nat × Int32 × Int32 × Int32 × Int32 × Int32 × (Nat → Int64) × (Nat → Int64) × (Nat → Int64) × (Nat → Int64) × Int64 × Int64) => ∀ (H : Heap) (locs : List Loc) (ls : Array Slot), Wd G A s.heap H locs [(aA, .inr (3, [.ref aN, .ref A_draft, .ref aA_images, .ref aA_kept, .ref aS, .ref A_reader, .ref aA_refused, .ref aA_heardBy])), (aA_refused, .inl (gI G, 3, .inl A_refused)), (aN, .inr (0, [.int N_width, .int N_height, .long N_everywhere, .long N_firstColumn, .long N_lastColumn, .ref aN_grounds, .ref aN_airs, .ref aN_tolds, .ref aN_fees, .ref aN_lets, .int N_makers, .ref aN_kinds, .ref aN_cells, .ref aN_selves, .ref aN_cries, .int N_leaves, .ref aN_parts, .int N_pasts, .ref aN_past])), (aN_grounds, .inl (gJ G, 3, .inr (.inl N_grounds))), (aN_airs, .inl (gJ G, 6, .inr (.inl N_airs))), (aN_tolds, .inl (gJ G, 3, .inr (.inl N_tolds))), (aN_fees, .inl (gI G, 6, .inl N_fees)), (aN_kinds, .inl (gI G, 6, .inl N_kinds)), (aN_cells, .inl (gI G, 6, .inl N_cells)), (aN_selves, .inl (gI G, 6, .inl N_selves)), (aN_parts, .inl (gI G, 40, .inl N_parts)), (aS, .inr (2, [.ref x39, .int x40, .int x41, .int x42, .int x43, .int x44, .ref aS_may, .ref aS_ways, .ref aS_echo, .ref aS_echoes, .long x49, .long x50])), (aS_may, .inl (gJ G, 21, .inr (.inl x45))), (aS_ways, .inl (gJ G, 21, .inr (.inl x46))), (aS_echo, .inl (gJ G, 21, .inr (.inl x47))), (aS_echoes, .inl (gJ G, 21, .inr (.inl x48)))] → lv_has ls 9 [(0, .ref aA), (1, .int p1), (2, .int p2), (3, .int p3), (4, .int p4), (5, .int x37), (6, .int x38), (7, .int x24)] → W p l e (RM 5 129) s m args below meth c H locs 0 0 Q (F0 m 115 ls [])) h ?_ ?_
            · skip
              intro x h
              obtain ⟨x37, x38, x39, x40, x41, x42, x43, x44, x45, x46, x47, x48, x49, x50⟩ := x
              intro H locs ls hW hl
              obtain ⟨x51, ex51⟩ : ∃ y : Int32, y = x24 + 1 := ⟨_, rfl⟩
              replace h := lt_at ex51 h
              refine lv_iinc (v := x51) (lv' := [(7, .int x51), (0, .ref aA), (1, .int p1), (2, .int p2), (3, .int p3), (4, .int p4), (5, .int x37), (6, .int x38)]) C.1.1 C.1.2.1 d_Ai_buy_115 hl (k := 7) rfl (by rw [ex51]; rfl) (by decide) rfl (fun ls hl => ?_)
              refine lv_goto (tgt := 36) C.1.1 C.1.2.1 d_Ai_buy_118 (by decide) ?_
              exact ih36 _ h _ _ _ hW (lv_sub hl [1, 2, 3, 4, 5, 6, 7, 0] rfl)
            · intro J115 hJ115 h
              refine lv_if_eq (tgt := 63) C.1.1 C.1.2.1 d_Ai_buy_57 (by decide) (fun cc => ?_) (fun cc => ?_)
              · replace h := it_t cc h
                refine lv_aload_n C.1.1 C.1.2.1 d_Ai_buy_63 rfl (lv_at hl 0 rfl) ?_
                refine x_get C hE hW fl_Ai_32 0 rfl rfl d_Ai_buy_64 ?_
                refine lv_aload_n C.1.1 C.1.2.1 d_Ai_buy_67 rfl (lv_at hl 0 rfl) ?_
                refine x_get C hE hW fl_Ai_12 0 rfl rfl d_Ai_buy_68 ?_
                refine lv_iload_n C.1.1 C.1.2.1 d_Ai_buy_71 rfl (lv_at hl 1 rfl) ?_
                refine lv_iload_n C.1.1 C.1.2.1 d_Ai_buy_72 rfl (lv_at hl 2 rfl) ?_
                refine lv_iload_n C.1.1 C.1.2.1 d_Ai_buy_73 rfl (lv_at hl 3 rfl) ?_
                refine lv_iload C.1.1 C.1.2.1 d_Ai_buy_74 (lv_at hl 7 rfl) ?_
                refine lv_iconst (v := 0) C.1.1 C.1.2.1 d_Ai_buy_76 (by decide) ?_
                obtain ⟨⟨x52, x53, x54, x55, x56, x57, x58, x59, x60, x61, x62⟩, hc63, h⟩ := bd_at h
                refine x_callV (ws' := [(aA, .inr (3, [.ref aN, .ref A_draft, .ref aA_images, .ref aA_kept, .ref aS, .ref A_reader, .ref aA_refused, .ref aA_heardBy])), (aA_refused, .inl (gI G, 3, .inl A_refused)), (aN, .inr (0, [.int N_width, .int N_height, .long N_everywhere, .long N_firstColumn, .long N_lastColumn, .ref aN_grounds, .ref aN_airs, .ref aN_tolds, .ref aN_fees, .ref aN_lets, .int N_makers, .ref aN_kinds, .ref aN_cells, .ref aN_selves, .ref aN_cries, .int N_leaves, .ref aN_parts, .int N_pasts, .ref aN_past])), (aN_grounds, .inl (gJ G, 3, .inr (.inl N_grounds))), (aN_airs, .inl (gJ G, 6, .inr (.inl N_airs))), (aN_tolds, .inl (gJ G, 3, .inr (.inl N_tolds))), (aN_fees, .inl (gI G, 6, .inl N_fees)), (aN_kinds, .inl (gI G, 6, .inl N_kinds)), (aN_cells, .inl (gI G, 6, .inl N_cells)), (aN_selves, .inl (gI G, 6, .inl N_selves)), (aN_parts, .inl (gI G, 40, .inl N_parts)), (aS, .inr (2, [.ref aN, .int x52, .int x53, .int x54, .int x55, .int x56, .ref aS_may, .ref aS_ways, .ref aS_echo, .ref aS_echoes, .long x61, .long x62])), (aS_may, .inl (gJ G, 21, .inr (.inl x57))), (aS_ways, .inl (gJ G, 21, .inr (.inl x58))), (aS_echo, .inl (gJ G, 21, .inr (.inl x59))), (aS_echoes, .inl (gJ G, 21, .inr (.inl x60)))]) (stk := []) (rest := []) (As := [.ref aN, .int p1, .int p2, .int p3, .int x24, .int 0]) (q0 := 11) C hE hW (c_Sd_make l G aN aN_grounds aN_airs aN_tolds aN_fees aN_lets aN_kinds aN_cells aN_selves aN_cries aN_parts aN_past aS aS_may aS_ways aS_echo aS_echoes N_width N_height N_everywhere N_firstColumn N_lastColumn N_makers N_leaves N_pasts x25 x26 x27 x28 x29 x30 x35 x36 N_grounds N_airs N_kinds N_cells N_selves N_parts x31 x32 x33 x34 p1 p2 p3 x24 0 hc63) cv_Sd_make tw562 hl rfl rfl (Nat.le_of_ble_eq_true rfl) rfl rfl rfl ⟨Nat.le_of_ble_eq_true rfl, Nat.le_of_ble_eq_true rfl⟩ ⟨Nat.zero_le _, Nat.zero_le _⟩ [2, 3, 4, 7, 8, 9, 10, 11, 12, 13, 14, 15] [0, 1, 5, 6] [0, 1, 4, 5, 6, 2, 3, 7, 8, 9, 10, 11, 12, 13, 14, 15] rfl rfl rfl (by decide) rfl rfl rfl rfl d_Ai_buy_77 (fun H locs hW => ?_)
                refine lv_aload_n C.1.1 C.1.2.1 d_Ai_buy_80 rfl (lv_at hl 0 rfl) ?_
                refine lv_iload_n C.1.1 C.1.2.1 d_Ai_buy_81 rfl (lv_at hl 1 rfl) ?_
                obtain ⟨x64, hc65, h⟩ := bd_at h
                refine x_callV (ws' := [(aA, .inr (3, [.ref aN, .ref A_draft, .ref aA_images, .ref aA_kept, .ref aS, .ref A_reader, .ref aA_refused, .ref aA_heardBy])), (aA_refused, .inl (gI G, 3, .inl A_refused)), (aN, .inr (0, [.int N_width, .int N_height, .long N_everywhere, .long N_firstColumn, .long N_lastColumn, .ref aN_grounds, .ref aN_airs, .ref aN_tolds, .ref aN_fees, .ref aN_lets, .int N_makers, .ref aN_kinds, .ref aN_cells, .ref aN_selves, .ref aN_cries, .int N_leaves, .ref aN_parts, .int N_pasts, .ref aN_past])), (aN_grounds, .inl (gJ G, 3, .inr (.inl N_grounds))), (aN_airs, .inl (gJ G, 6, .inr (.inl N_airs))), (aN_tolds, .inl (gJ G, 3, .inr (.inl N_tolds))), (aN_fees, .inl (gI G, 6, .inl N_fees)), (aN_kinds, .inl (gI G, 6, .inl N_kinds)), (aN_cells, .inl (gI G, 6, .inl N_cells)), (aN_selves, .inl (gI G, 6, .inl N_selves)), (aN_parts, .inl (gI G, 40, .inl N_parts)), (aS, .inr (2, [.ref aN, .int x52, .int x53, .int x54, .int x55, .int x56, .ref aS_may, .ref aS_ways, .ref aS_echo, .ref aS_echoes, .long x61, .long x62])), (aS_may, .inl (gJ G, 21, .inr (.inl x57))), (aS_ways, .inl (gJ G, 21, .inr (.inl x58))), (aS_echo, .inl (gJ G, 21, .inr (.inl x59))), (aS_echoes, .inl (gJ G, 21, .inr (.inl x60)))]) (stk := [.int x64]) (rest := []) (As := [.int p1]) (q0 := 0) C hE hW (c_Ai_costOfSound l G aA aA_images aA_kept aA_refused aA_heardBy aN aN_grounds aN_airs aN_tolds aN_fees aN_lets aN_kinds aN_cells aN_selves aN_cries aN_parts aN_past aS aS_may aS_ways aS_echo aS_echoes A_draft A_reader N_width N_height N_everywhere N_firstColumn N_lastColumn N_makers N_leaves N_pasts aN x52 x53 x54 x55 x56 x61 x62 N_airs N_fees N_selves p1 hc65) cv_Ai_costOfSound tw651 hl rfl rfl (Nat.le_of_ble_eq_true rfl) rfl rfl rfl ⟨Nat.le_of_ble_eq_true rfl, Nat.le_of_ble_eq_true rfl⟩ ⟨Nat.zero_le _, Nat.zero_le _⟩ [0, 2, 4, 6, 9, 11] [1, 3, 5, 7, 8, 10, 12, 13, 14, 15] [10, 0, 11, 1, 12, 2, 13, 3, 4, 14, 5, 15, 6, 7, 8, 9] rfl rfl rfl (by decide) rfl rfl rfl rfl d_Ai_buy_82 (fun H locs hW => ?_)
                refine lv_istore (lv' := [(8, .int x64), (0, .ref aA), (1, .int p1), (2, .int p2), (3, .int p3), (4, .int p4), (5, .int x22), (6, .int x23), (7, .int x24)]) C.1.1 C.1.2.1 d_Ai_buy_85 hl (by decide) rfl (fun ls hl => ?_)
                refine lv_aload_n C.1.1 C.1.2.1 d_Ai_buy_87 rfl (lv_at hl 1 rfl) ?_
                obtain ⟨x66, hc67, h⟩ := bd_at h
                refine x_callV (ws' := [(aA, .inr (3, [.ref aN, .ref A_draft, .ref aA_images, .ref aA_kept, .ref aS, .ref A_reader, .ref aA_refused, .ref aA_heardBy])), (aA_refused, .inl (gI G, 3, .inl A_refused)), (aN, .inr (0, [.int N_width, .int N_height, .long N_everywhere, .long N_firstColumn, .long N_lastColumn, .ref aN_grounds, .ref aN_airs, .ref aN_tolds, .ref aN_fees, .ref aN_lets, .int N_makers, .ref aN_kinds, .ref aN_cells, .ref aN_selves, .ref aN_cries, .int N_leaves, .ref aN_parts, .int N_pasts, .ref aN_past])), (aN_grounds, .inl (gJ G, 3, .inr (.inl N_grounds))), (aN_airs, .inl (gJ G, 6, .inr (.inl N_airs))), (aN_tolds, .inl (gJ G, 3, .inr (.inl N_tolds))), (aN_fees, .inl (gI G, 6, .inl N_fees)), (aN_kinds, .inl (gI G, 6, .inl N_kinds)), (aN_cells, .inl (gI G, 6, .inl N_cells)), (aN_selves, .inl (gI G, 6, .inl N_selves)), (aN_parts, .inl (gI G, 40, .inl N_parts)), (aS, .inr (2, [.ref aN, .int x52, .int x53, .int x54, .int x55, .int x56, .ref aS_may, .ref aS_ways, .ref aS_echo, .ref aS_echoes, .long x61, .long x62])), (aS_may, .inl (gJ G, 21, .inr (.inl x57))), (aS_ways, .inl (gJ G, 21, .inr (.inl x58))), (aS_echo, .inl (gJ G, 21, .inr (.inl x59))), (aS_echoes, .inl (gJ G, 21, .inr (.inl x60)))]) (stk := [.int x66]) (rest := []) (As := []) (q0 := 0) C hE hW (c_Ai_isAsTold l G aA aA_images aA_kept aA_refused aA_heardBy aN aN_grounds aN_airs aN_tolds aN_fees aN_lets aN_kinds aN_cells aN_selves aN_cries aN_parts aN_past aS aS_may aS_ways aS_echo aS_echoes A_draft A_reader N_width N_height N_everywhere N_firstColumn N_lastColumn N_makers N_leaves N_pasts aN x52 x53 x54 x55 x56 x61 x62 N_tolds hc67) cv_Ai_isAsTold tw693 hl rfl rfl (Nat.le_of_ble_eq_true rfl) rfl rfl rfl ⟨Nat.le_of_ble_eq_true rfl, Nat.le_of_ble_eq_true rfl⟩ ⟨Nat.zero_le _, Nat.zero_le _⟩ [0, 2, 5, 11] [1, 3, 4, 6, 7, 8, 9, 10, 12, 13, 14, 15] [12, 0, 13, 1, 2, 14, 3, 4, 5, 6, 7, 15, 8, 9, 10, 11] rfl rfl rfl (by decide) rfl rfl rfl rfl d_Ai_buy_88 (fun H locs hW => ?_)
                refine lv_if_eq (tgt := 115) C.1.1 C.1.2.1 d_Ai_buy_91 (by decide) (fun cc => ?_) (fun cc => ?_)
                · replace h := it_t cc h
                  exact hJ115 _ h _ _ _ hW (lv_sub hl [1, 2, 3, 4, 5, 6, 7, 8] rfl)
                · replace h := it_f cc h
                  refine lv_iload C.1.1 C.1.2.1 d_Ai_buy_94 (lv_at hl 7 rfl) ?_
                  refine lv_iconst (v := (-1)) C.1.1 C.1.2.1 d_Ai_buy_96 (by decide) ?_
                  refine jn_at (P := fun (_ : Unit) => ∀ (H : Heap) (locs : List Loc) (ls : Array Slot), Wd G A s.heap H locs [(aA, .inr (3, [.ref aN, .ref A_draft, .ref aA_images, .ref aA_kept, .ref aS, .ref A_reader, .ref aA_refused, .ref aA_heardBy])), (aA_refused, .inl (gI G, 3, .inl A_refused)), (aN, .inr (0, [.int N_width, .int N_height, .long N_everywhere, .long N_firstColumn, .long N_lastColumn, .ref aN_grounds, .ref aN_airs, .ref aN_tolds, .ref aN_fees, .ref aN_lets, .int N_makers, .ref aN_kinds, .ref aN_cells, .ref aN_selves, .ref aN_cries, .int N_leaves, .ref aN_parts, .int N_pasts, .ref aN_past])), (aN_grounds, .inl (gJ G, 3, .inr (.inl N_grounds))), (aN_airs, .inl (gJ G, 6, .inr (.inl N_airs))), (aN_tolds, .inl (gJ G, 3, .inr (.inl N_tolds))), (aN_fees, .inl (gI G, 6, .inl N_fees)), (aN_kinds, .inl (gI G, 6, .inl N_kinds)), (aN_cells, .inl (gI G, 6, .inl N_cells)), (aN_selves, .inl (gI G, 6, .inl N_selves)), (aN_parts, .inl (gI G, 40, .inl N_parts)), (aS, .inr (2, [.ref aN, .int x52, .int x53, .int x54, .int x55, .int x56, .ref aS_may, .ref aS_ways, .ref aS_echo, .ref aS_echoes, .long x61, .long x62])), (aS_may, .inl (gJ G, 21, .inr (.inl x57))), (aS_ways, .inl (gJ G, 21, .inr (.inl x58))), (aS_echo, .inl (gJ G, 21, .inr (.inl x59))), (aS_echoes, .inl (gJ G, 21, .inr (.inl x60)))] → lv_has ls 9 [(0, .ref aA), (1, .int p1), (2, .int p2), (3, .int p3), (4, .int p4), (7, .int x24), (8, .int x64)] → W p l e (RM 5 129) s m args below meth c H locs 0 0 Q (F0 m 107 ls [])) h ?_ ?_
                  · skip
                    intro _ h
                    intro H locs ls hW hl
                    refine lv_iload C.1.1 C.1.2.1 d_Ai_buy_107 (lv_at hl 6 rfl) ?_
                    refine lv_istore (lv' := [(5, .int x64), (0, .ref aA), (1, .int p1), (2, .int p2), (3, .int p3), (4, .int p4), (7, .int x24), (8, .int x64)]) C.1.1 C.1.2.1 d_Ai_buy_109 hl (by decide) rfl (fun ls hl => ?_)
                    refine lv_iload C.1.1 C.1.2.1 d_Ai_buy_111 (lv_at hl 6 rfl) ?_
                    refine lv_istore (lv' := [(6, .int x24), (5, .int x64), (0, .ref aA), (1, .int p1), (2, .int p2), (3, .int p3), (4, .int p4), (7, .int x24), (8, .int x64)]) C.1.1 C.1.2.1 d_Ai_buy_113 hl (by decide) rfl (fun ls hl => ?_)
                    exact hJ115 _ h _ _ _ hW (lv_sub hl [2, 3, 4, 5, 6, 1, 0, 7] rfl)
                  · intro J107 hJ107 h
                    refine lv_icmp_eq (tgt := 107) C.1.1 C.1.2.1 d_Ai_buy_97 (by decide) (fun cc => ?_) (fun cc => ?_)
                    · replace h := it_t cc h
                      exact hJ107 _ h _ _ _ hW (lv_sub hl [1, 2, 3, 4, 5, 8, 0] rfl)
                    · replace h := it_f cc h
                      refine lv_iload C.1.1 C.1.2.1 d_Ai_buy_100 (lv_at hl 0 rfl) ?_
                      refine lv_iload C.1.1 C.1.2.1 d_Ai_buy_102 (lv_at hl 6 rfl) ?_
                      refine lv_icmp_ge (tgt := 115) C.1.1 C.1.2.1 d_Ai_buy_104 (by decide) (fun cc => ?_) (fun cc => ?_)
                      · replace h := it_t cc h
                        exact hJ115 _ h _ _ _ hW (lv_sub hl [1, 2, 3, 4, 5, 6, 7, 8] rfl)
                      · replace h := it_f cc h
                        exact hJ107 _ h _ _ _ hW (lv_sub hl [1, 2, 3, 4, 5, 8, 0] rfl)
              · replace h := it_f cc h
                refine lv_goto (tgt := 115) C.1.1 C.1.2.1 d_Ai_buy_60 (by decide) ?_
                exact hJ115 _ h _ _ _ hW (lv_sub hl [0, 1, 2, 3, 4, 5, 6, 7] rfl)
      · replace h := it_t cc h
        exact hJ18 _ h _ _ _ hW (lv_sub hl [0] rfl)
set_option maxHeartbeats 4000000 in
set_option maxRecDepth 100000 in
theorem c_Ai_who (l : Launch) (G : Gl) (aA : Nat) (aA_images : Nat) (aA_kept : Nat) (aA_refused : Nat) (aA_heardBy : Nat) (aN : Nat) (aN_grounds : Nat) (aN_airs : Nat) (aN_tolds : Nat) (aN_fees : Nat) (aN_lets : Nat) (aN_kinds : Nat) (aN_cells : Nat) (aN_selves : Nat) (aN_cries : Nat) (aN_parts : Nat) (aN_past : Nat) (aS : Nat) (aS_may : Nat) (aS_ways : Nat) (aS_echo : Nat) (aS_echoes : Nat) (A_draft : Nat) (A_reader : Nat) (N_width : Int32) (N_height : Int32) (N_everywhere : Int64) (N_firstColumn : Int64) (N_lastColumn : Int64) (N_makers : Int32) (N_leaves : Int32) (N_pasts : Int32) (S_land : Nat) (S_maker : Int32) (S_loud : Int32) (S_hour : Int32) (S_bought : Int32) (S_gone : Int32) (S_straight : Int64) (S_all : Int64) (A_refused : Nat → Int32) (N_grounds : Nat → Int64) (N_airs : Nat → Int64) (N_tolds : Nat → Int64) (N_kinds : Nat → Int32) (N_cells : Nat → Int32) (N_selves : Nat → Int32) (N_parts : Nat → Int32) (S_may : Nat → Int64) (S_ways : Nat → Int64) (S_echo : Nat → Int64) (S_echoes : Nat → Int64) (p1 : Int32) (p2 : Int32) {res : Int32 × (Nat → Int32) × Nat × Int32 × Int32 × Int32 × Int32 × Int32 × (Nat → Int64) × (Nat → Int64) × (Nat → Int64) × (Nat → Int64) × Int64 × Int64} (h : f_Ai_who aN N_width N_everywhere N_firstColumn N_lastColumn N_makers N_leaves S_land S_maker S_loud S_hour S_bought S_gone S_straight S_all A_refused N_grounds N_airs N_tolds N_kinds N_cells N_selves N_parts S_may S_ways S_echo S_echoes p1 p2 = some res) : Ct l y_Ai_who b_Ai_who 6 (some .int) 6 152 G [.ref aA, .int p1, .int p2] [(aA, .inr (3, [.ref aN, .ref A_draft, .ref aA_images, .ref aA_kept, .ref aS, .ref A_reader, .ref aA_refused, .ref aA_heardBy])), (aA_refused, .inl (gI G, 3, .inl A_refused)), (aN, .inr (0, [.int N_width, .int N_height, .long N_everywhere, .long N_firstColumn, .long N_lastColumn, .ref aN_grounds, .ref aN_airs, .ref aN_tolds, .ref aN_fees, .ref aN_lets, .int N_makers, .ref aN_kinds, .ref aN_cells, .ref aN_selves, .ref aN_cries, .int N_leaves, .ref aN_parts, .int N_pasts, .ref aN_past])), (aN_grounds, .inl (gJ G, 3, .inr (.inl N_grounds))), (aN_airs, .inl (gJ G, 6, .inr (.inl N_airs))), (aN_tolds, .inl (gJ G, 3, .inr (.inl N_tolds))), (aN_kinds, .inl (gI G, 6, .inl N_kinds)), (aN_cells, .inl (gI G, 6, .inl N_cells)), (aN_selves, .inl (gI G, 6, .inl N_selves)), (aN_parts, .inl (gI G, 40, .inl N_parts)), (aS, .inr (2, [.ref S_land, .int S_maker, .int S_loud, .int S_hour, .int S_bought, .int S_gone, .ref aS_may, .ref aS_ways, .ref aS_echo, .ref aS_echoes, .long S_straight, .long S_all])), (aS_may, .inl (gJ G, 21, .inr (.inl S_may))), (aS_ways, .inl (gJ G, 21, .inr (.inl S_ways))), (aS_echo, .inl (gJ G, 21, .inr (.inl S_echo))), (aS_echoes, .inl (gJ G, 21, .inr (.inl S_echoes)))] (some (.int res.1)) [(aA, .inr (3, [.ref aN, .ref A_draft, .ref aA_images, .ref aA_kept, .ref aS, .ref A_reader, .ref aA_refused, .ref aA_heardBy])), (aA_refused, .inl (gI G, 3, .inl (res.2.1))), (aN, .inr (0, [.int N_width, .int N_height, .long N_everywhere, .long N_firstColumn, .long N_lastColumn, .ref aN_grounds, .ref aN_airs, .ref aN_tolds, .ref aN_fees, .ref aN_lets, .int N_makers, .ref aN_kinds, .ref aN_cells, .ref aN_selves, .ref aN_cries, .int N_leaves, .ref aN_parts, .int N_pasts, .ref aN_past])), (aN_grounds, .inl (gJ G, 3, .inr (.inl N_grounds))), (aN_airs, .inl (gJ G, 6, .inr (.inl N_airs))), (aN_tolds, .inl (gJ G, 3, .inr (.inl N_tolds))), (aN_kinds, .inl (gI G, 6, .inl N_kinds)), (aN_cells, .inl (gI G, 6, .inl N_cells)), (aN_selves, .inl (gI G, 6, .inl N_selves)), (aN_parts, .inl (gI G, 40, .inl N_parts)), (aS, .inr (2, [.ref (res.2.2.1), .int (res.2.2.2.1), .int (res.2.2.2.2.1), .int (res.2.2.2.2.2.1), .int (res.2.2.2.2.2.2.1), .int (res.2.2.2.2.2.2.2.1), .ref aS_may, .ref aS_ways, .ref aS_echo, .ref aS_echoes, .long (res.2.2.2.2.2.2.2.2.2.2.2.2.1), .long (res.2.2.2.2.2.2.2.2.2.2.2.2.2)])), (aS_may, .inl (gJ G, 21, .inr (.inl (res.2.2.2.2.2.2.2.2.1)))), (aS_ways, .inl (gJ G, 21, .inr (.inl (res.2.2.2.2.2.2.2.2.2.1)))), (aS_echo, .inl (gJ G, 21, .inr (.inl (res.2.2.2.2.2.2.2.2.2.2.1)))), (aS_echoes, .inl (gJ G, 21, .inr (.inl (res.2.2.2.2.2.2.2.2.2.2.2.1))))] := by
  refine Ct.mk (by decide) (Nat.le_of_ble_eq_true rfl) ?_
  intro p e s m args below meth c ls A Q C hE hW hl hQ
  have C : Cx p s args m c meth "LentAir" y_Ai_who b_Ai_who 6 (some .int) := C
  have hl : lv_has ls 6 [(0, .ref aA), (1, .int p1), (2, .int p2)] := hl
  unfold f_Ai_who at h
  refine lv_iload_n C.1.1 C.1.2.1 d_Ai_who_0 rfl (lv_at hl 1 rfl) ?_
  obtain ⟨x1, hc2, h⟩ := bd_at h
  refine x_callS (ws' := [(aA, .inr (3, [.ref aN, .ref A_draft, .ref aA_images, .ref aA_kept, .ref aS, .ref A_reader, .ref aA_refused, .ref aA_heardBy])), (aA_refused, .inl (gI G, 3, .inl A_refused)), (aN, .inr (0, [.int N_width, .int N_height, .long N_everywhere, .long N_firstColumn, .long N_lastColumn, .ref aN_grounds, .ref aN_airs, .ref aN_tolds, .ref aN_fees, .ref aN_lets, .int N_makers, .ref aN_kinds, .ref aN_cells, .ref aN_selves, .ref aN_cries, .int N_leaves, .ref aN_parts, .int N_pasts, .ref aN_past])), (aN_grounds, .inl (gJ G, 3, .inr (.inl N_grounds))), (aN_airs, .inl (gJ G, 6, .inr (.inl N_airs))), (aN_tolds, .inl (gJ G, 3, .inr (.inl N_tolds))), (aN_kinds, .inl (gI G, 6, .inl N_kinds)), (aN_cells, .inl (gI G, 6, .inl N_cells)), (aN_selves, .inl (gI G, 6, .inl N_selves)), (aN_parts, .inl (gI G, 40, .inl N_parts)), (aS, .inr (2, [.ref S_land, .int S_maker, .int S_loud, .int S_hour, .int S_bought, .int S_gone, .ref aS_may, .ref aS_ways, .ref aS_echo, .ref aS_echoes, .long S_straight, .long S_all])), (aS_may, .inl (gJ G, 21, .inr (.inl S_may))), (aS_ways, .inl (gJ G, 21, .inr (.inl S_ways))), (aS_echo, .inl (gJ G, 21, .inr (.inl S_echo))), (aS_echoes, .inl (gJ G, 21, .inr (.inl S_echoes)))]) (stk := [.int x1]) (rest := []) (As := [.int p1]) C hE hW (c_Ai_isHour l G p1 hc2) cv_Ai_isHour tw362 hl rfl rfl (Nat.le_of_ble_eq_true rfl) ⟨Nat.le_of_ble_eq_true rfl, Nat.le_of_ble_eq_true rfl⟩ ⟨Nat.zero_le _, Nat.zero_le _⟩ [] [0, 1, 2, 3, 4, 5, 6, 7, 8, 9, 10, 11, 12, 13, 14] [0, 1, 2, 3, 4, 5, 6, 7, 8, 9, 10, 11, 12, 13, 14] rfl rfl rfl (by decide) rfl rfl rfl rfl d_Ai_who_1 (fun H locs hW => ?_)
  refine jn_at (P := fun (_ : Unit) => ∀ (H : Heap) (locs : List Loc) (ls : Array Slot), Wd G A s.heap H locs [(aA, .inr (3, [.ref aN, .ref A_draft, .ref aA_images, .ref aA_kept, .ref aS, .ref A_reader, .ref aA_refused, .ref aA_heardBy])), (aA_refused, .inl (gI G, 3, .inl A_refused)), (aN, .inr (0, [.int N_width, .int N_height, .long N_everywhere, .long N_firstColumn, .long N_lastColumn, .ref aN_grounds, .ref aN_airs, .ref aN_tolds, .ref aN_fees, .ref aN_lets, .int N_makers, .ref aN_kinds, .ref aN_cells, .ref aN_selves, .ref aN_cries, .int N_leaves, .ref aN_parts, .int N_pasts, .ref aN_past])), (aN_grounds, .inl (gJ G, 3, .inr (.inl N_grounds))), (aN_airs, .inl (gJ G, 6, .inr (.inl N_airs))), (aN_tolds, .inl (gJ G, 3, .inr (.inl N_tolds))), (aN_kinds, .inl (gI G, 6, .inl N_kinds)), (aN_cells, .inl (gI G, 6, .inl N_cells)), (aN_selves, .inl (gI G, 6, .inl N_selves)), (aN_parts, .inl (gI G, 40, .inl N_parts)), (aS, .inr (2, [.ref S_land, .int S_maker, .int S_loud, .int S_hour, .int S_bought, .int S_gone, .ref aS_may, .ref aS_ways, .ref aS_echo, .ref aS_echoes, .long S_straight, .long S_all])), (aS_may, .inl (gJ G, 21, .inr (.inl S_may))), (aS_ways, .inl (gJ G, 21, .inr (.inl S_ways))), (aS_echo, .inl (gJ G, 21, .inr (.inl S_echo))), (aS_echoes, .inl (gJ G, 21, .inr (.inl S_echoes)))] → lv_has ls 6 [(0, .ref aA)] → W p l e (RM 6 152) s m args below meth c H locs 0 0 Q (F0 m 12 ls [])) h ?_ ?_
  · skip
    intro _ h
    intro H locs ls hW hl
    refine lv_aload_n C.1.1 C.1.2.1 d_Ai_who_12 rfl (lv_at hl 0 rfl) ?_
    refine lv_bipush (v := (-2)) C.1.1 C.1.2.1 d_Ai_who_13 (by decide) ?_
    refine lv_bipush (v := (-10)) C.1.1 C.1.2.1 d_Ai_who_15 (by decide) ?_
    obtain ⟨⟨x3, x4⟩, hc5, h⟩ := bd_at h
    refine x_callV (ws' := [(aA, .inr (3, [.ref aN, .ref A_draft, .ref aA_images, .ref aA_kept, .ref aS, .ref A_reader, .ref aA_refused, .ref aA_heardBy])), (aA_refused, .inl (gI G, 3, .inl x4)), (aN, .inr (0, [.int N_width, .int N_height, .long N_everywhere, .long N_firstColumn, .long N_lastColumn, .ref aN_grounds, .ref aN_airs, .ref aN_tolds, .ref aN_fees, .ref aN_lets, .int N_makers, .ref aN_kinds, .ref aN_cells, .ref aN_selves, .ref aN_cries, .int N_leaves, .ref aN_parts, .int N_pasts, .ref aN_past])), (aN_grounds, .inl (gJ G, 3, .inr (.inl N_grounds))), (aN_airs, .inl (gJ G, 6, .inr (.inl N_airs))), (aN_tolds, .inl (gJ G, 3, .inr (.inl N_tolds))), (aN_kinds, .inl (gI G, 6, .inl N_kinds)), (aN_cells, .inl (gI G, 6, .inl N_cells)), (aN_selves, .inl (gI G, 6, .inl N_selves)), (aN_parts, .inl (gI G, 40, .inl N_parts)), (aS, .inr (2, [.ref S_land, .int S_maker, .int S_loud, .int S_hour, .int S_bought, .int S_gone, .ref aS_may, .ref aS_ways, .ref aS_echo, .ref aS_echoes, .long S_straight, .long S_all])), (aS_may, .inl (gJ G, 21, .inr (.inl S_may))), (aS_ways, .inl (gJ G, 21, .inr (.inl S_ways))), (aS_echo, .inl (gJ G, 21, .inr (.inl S_echo))), (aS_echoes, .inl (gJ G, 21, .inr (.inl S_echoes)))]) (stk := [.int x3]) (rest := []) (As := [.int (-2), .int (-10)]) (q0 := 0) C hE hW (c_Ai_refuseAs l G aA aA_images aA_kept aA_refused aA_heardBy aN A_draft aS A_reader A_refused (-2) (-10) hc5) cv_Ai_refuseAs tw312 hl rfl rfl (Nat.le_of_ble_eq_true rfl) rfl rfl rfl ⟨Nat.le_of_ble_eq_true rfl, Nat.le_of_ble_eq_true rfl⟩ ⟨Nat.zero_le _, Nat.zero_le _⟩ [0, 1] [2, 3, 4, 5, 6, 7, 8, 9, 10, 11, 12, 13, 14] [13, 14, 0, 1, 2, 3, 4, 5, 6, 7, 8, 9, 10, 11, 12] rfl rfl rfl (by decide) rfl rfl rfl rfl d_Ai_who_17 (fun H locs hW => ?_)
    obtain rfl := Option.some.inj h
    exact x_iret C hW rfl rfl hQ d_Ai_who_20
  · intro J12 hJ12 h
    refine lv_if_eq (tgt := 12) C.1.1 C.1.2.1 d_Ai_who_4 (by decide) (fun cc => ?_) (fun cc => ?_)
    · replace h := it_t cc h
      exact hJ12 _ h _ _ _ hW (lv_sub hl [0] rfl)
    · replace h := it_f cc h
      refine lv_iload_n C.1.1 C.1.2.1 d_Ai_who_7 rfl (lv_at hl 2 rfl) ?_
      refine lv_iconst (v := (-1)) C.1.1 C.1.2.1 d_Ai_who_8 (by decide) ?_
      refine lv_icmp_ge (tgt := 21) C.1.1 C.1.2.1 d_Ai_who_9 (by decide) (fun cc => ?_) (fun cc => ?_)
      · replace h := it_t cc h
        refine lv_iconst (v := 0) C.1.1 C.1.2.1 d_Ai_who_21 (by decide) ?_
        refine lv_istore_n (lv' := [(3, .int 0), (0, .ref aA), (1, .int p1), (2, .int p2)]) C.1.1 C.1.2.1 d_Ai_who_22 rfl hl (by decide) rfl (fun ls hl => ?_)
        refine lv_iconst (v := 0) C.1.1 C.1.2.1 d_Ai_who_23 (by decide) ?_
        refine lv_istore (lv' := [(4, .int 0), (3, .int 0), (0, .ref aA), (1, .int p1), (2, .int p2)]) C.1.1 C.1.2.1 d_Ai_who_24 hl (by decide) rfl (fun ls hl => ?_)
        refine jn_at (P := fun ((x6, x7, x8, x9, x10, x11, x12, x13, x14, x15, x16, x17, x18) : Int32 × Nat × Int32 × Int32 × Int32 × Int32 × Int32 × (Nat → Int64) × (Nat → Int64) × (Nat → Int64) × (Nat → Int64) × Int64 × Int64) => ∀ (H : Heap) (locs : List Loc) (ls : Array Slot), Wd G A s.heap H locs [(aA, .inr (3, [.ref aN, .ref A_draft, .ref aA_images, .ref aA_kept, .ref aS, .ref A_reader, .ref aA_refused, .ref aA_heardBy])), (aA_refused, .inl (gI G, 3, .inl A_refused)), (aN, .inr (0, [.int N_width, .int N_height, .long N_everywhere, .long N_firstColumn, .long N_lastColumn, .ref aN_grounds, .ref aN_airs, .ref aN_tolds, .ref aN_fees, .ref aN_lets, .int N_makers, .ref aN_kinds, .ref aN_cells, .ref aN_selves, .ref aN_cries, .int N_leaves, .ref aN_parts, .int N_pasts, .ref aN_past])), (aN_grounds, .inl (gJ G, 3, .inr (.inl N_grounds))), (aN_airs, .inl (gJ G, 6, .inr (.inl N_airs))), (aN_tolds, .inl (gJ G, 3, .inr (.inl N_tolds))), (aN_kinds, .inl (gI G, 6, .inl N_kinds)), (aN_cells, .inl (gI G, 6, .inl N_cells)), (aN_selves, .inl (gI G, 6, .inl N_selves)), (aN_parts, .inl (gI G, 40, .inl N_parts)), (aS, .inr (2, [.ref x7, .int x8, .int x9, .int x10, .int x11, .int x12, .ref aS_may, .ref aS_ways, .ref aS_echo, .ref aS_echoes, .long x17, .long x18])), (aS_may, .inl (gJ G, 21, .inr (.inl x13))), (aS_ways, .inl (gJ G, 21, .inr (.inl x14))), (aS_echo, .inl (gJ G, 21, .inr (.inl x15))), (aS_echoes, .inl (gJ G, 21, .inr (.inl x16)))] → lv_has ls 6 [(2, .int p2), (3, .int x6)] → W p l e (RM 6 152) s m args below meth c H locs 0 0 Q (F0 m 93 ls [])) h ?_ ?_
        · skip
          intro x h
          obtain ⟨x6, x7, x8, x9, x10, x11, x12, x13, x14, x15, x16, x17, x18⟩ := x
          intro H locs ls hW hl
          refine lv_iload_n C.1.1 C.1.2.1 d_Ai_who_93 rfl (lv_at hl 0 rfl) ?_
          refine lv_iconst (v := (-1)) C.1.1 C.1.2.1 d_Ai_who_94 (by decide) ?_
          refine lv_icmp_ne (tgt := 102) C.1.1 C.1.2.1 d_Ai_who_95 (by decide) (fun cc => ?_) (fun cc => ?_)
          · replace h := it_f cc h
            refine lv_bipush (v := (-5)) C.1.1 C.1.2.1 d_Ai_who_102 (by decide) ?_
            obtain rfl := Option.some.inj h
            exact x_iret C hW rfl rfl hQ d_Ai_who_104
          · replace h := it_t cc h
            refine lv_iload_n C.1.1 C.1.2.1 d_Ai_who_98 rfl (lv_at hl 1 rfl) ?_
            refine lv_goto (tgt := 104) C.1.1 C.1.2.1 d_Ai_who_99 (by decide) ?_
            obtain rfl := Option.some.inj h
            exact x_iret C hW rfl rfl hQ d_Ai_who_104
        · intro J93 hJ93 h
          refine jn_at (P := fun ((x19, x20, x21, x22, x23, x24, x25, x26, x27, x28, x29, x30, x31, x32) : Int32 × Int32 × Nat × Int32 × Int32 × Int32 × Int32 × Int32 × (Nat → Int64) × (Nat → Int64) × (Nat → Int64) × (Nat → Int64) × Int64 × Int64) => ∀ (H : Heap) (locs : List Loc) (ls : Array Slot), Wd G A s.heap H locs [(aA, .inr (3, [.ref aN, .ref A_draft, .ref aA_images, .ref aA_kept, .ref aS, .ref A_reader, .ref aA_refused, .ref aA_heardBy])), (aA_refused, .inl (gI G, 3, .inl A_refused)), (aN, .inr (0, [.int N_width, .int N_height, .long N_everywhere, .long N_firstColumn, .long N_lastColumn, .ref aN_grounds, .ref aN_airs, .ref aN_tolds, .ref aN_fees, .ref aN_lets, .int N_makers, .ref aN_kinds, .ref aN_cells, .ref aN_selves, .ref aN_cries, .int N_leaves, .ref aN_parts, .int N_pasts, .ref aN_past])), (aN_grounds, .inl (gJ G, 3, .inr (.inl N_grounds))), (aN_airs, .inl (gJ G, 6, .inr (.inl N_airs))), (aN_tolds, .inl (gJ G, 3, .inr (.inl N_tolds))), (aN_kinds, .inl (gI G, 6, .inl N_kinds)), (aN_cells, .inl (gI G, 6, .inl N_cells)), (aN_selves, .inl (gI G, 6, .inl N_selves)), (aN_parts, .inl (gI G, 40, .inl N_parts)), (aS, .inr (2, [.ref x21, .int x22, .int x23, .int x24, .int x25, .int x26, .ref aS_may, .ref aS_ways, .ref aS_echo, .ref aS_echoes, .long x31, .long x32])), (aS_may, .inl (gJ G, 21, .inr (.inl x27))), (aS_ways, .inl (gJ G, 21, .inr (.inl x28))), (aS_echo, .inl (gJ G, 21, .inr (.inl x29))), (aS_echoes, .inl (gJ G, 21, .inr (.inl x30)))] → lv_has ls 6 [(4, .int x19), (5, .int x20)] → W p l e (RM 6 152) s m args below meth c H locs 0 0 Q (F0 m 69 ls [])) h ?_ ?_
          · skip
            intro x h
            obtain ⟨x19, x20, x21, x22, x23, x24, x25, x26, x27, x28, x29, x30, x31, x32⟩ := x
            intro H locs ls hW hl
            refine lv_bipush (v := 100) C.1.1 C.1.2.1 d_Ai_who_69 (by decide) ?_
            refine lv_iload C.1.1 C.1.2.1 d_Ai_who_71 (lv_at hl 0 rfl) ?_
            refine lv_imul C.1.1 C.1.2.1 d_Ai_who_73 ?_
            refine lv_iload C.1.1 C.1.2.1 d_Ai_who_74 (lv_at hl 1 rfl) ?_
            refine lv_iadd C.1.1 C.1.2.1 d_Ai_who_76 ?_
            obtain rfl := Option.some.inj h
            exact x_iret C hW rfl rfl hQ d_Ai_who_77
          · intro J69 hJ69 h
            refine lp_at (P := fun ((x33, x34, x35, x36, x37, x38, x39, x40, x41, x42, x43, x44, x45, x46) : Int32 × Int32 × Nat × Int32 × Int32 × Int32 × Int32 × Int32 × (Nat → Int64) × (Nat → Int64) × (Nat → Int64) × (Nat → Int64) × Int64 × Int64) => ∀ (H : Heap) (locs : List Loc) (ls : Array Slot), Wd G A s.heap H locs [(aA, .inr (3, [.ref aN, .ref A_draft, .ref aA_images, .ref aA_kept, .ref aS, .ref A_reader, .ref aA_refused, .ref aA_heardBy])), (aA_refused, .inl (gI G, 3, .inl A_refused)), (aN, .inr (0, [.int N_width, .int N_height, .long N_everywhere, .long N_firstColumn, .long N_lastColumn, .ref aN_grounds, .ref aN_airs, .ref aN_tolds, .ref aN_fees, .ref aN_lets, .int N_makers, .ref aN_kinds, .ref aN_cells, .ref aN_selves, .ref aN_cries, .int N_leaves, .ref aN_parts, .int N_pasts, .ref aN_past])), (aN_grounds, .inl (gJ G, 3, .inr (.inl N_grounds))), (aN_airs, .inl (gJ G, 6, .inr (.inl N_airs))), (aN_tolds, .inl (gJ G, 3, .inr (.inl N_tolds))), (aN_kinds, .inl (gI G, 6, .inl N_kinds)), (aN_cells, .inl (gI G, 6, .inl N_cells)), (aN_selves, .inl (gI G, 6, .inl N_selves)), (aN_parts, .inl (gI G, 40, .inl N_parts)), (aS, .inr (2, [.ref x35, .int x36, .int x37, .int x38, .int x39, .int x40, .ref aS_may, .ref aS_ways, .ref aS_echo, .ref aS_echoes, .long x45, .long x46])), (aS_may, .inl (gJ G, 21, .inr (.inl x41))), (aS_ways, .inl (gJ G, 21, .inr (.inl x42))), (aS_echo, .inl (gJ G, 21, .inr (.inl x43))), (aS_echoes, .inl (gJ G, 21, .inr (.inl x44)))] → lv_has ls 6 [(0, .ref aA), (1, .int p1), (2, .int p2), (3, .int x33), (4, .int x34)] → W p l e (RM 6 152) s m args below meth c H locs 0 0 Q (F0 m 26 ls [])) ?_ FU _ h _ _ _ hW (lv_sub hl [2, 3, 4, 1, 0] rfl)
            clear h hl hW
            intro rec26 ih26
            intro x h
            obtain ⟨x33, x34, x35, x36, x37, x38, x39, x40, x41, x42, x43, x44, x45, x46⟩ := x
            unfold f_Ai_who_L26 at h
            intro H locs ls hW hl
            refine lv_iload C.1.1 C.1.2.1 d_Ai_who_26 (lv_at hl 4 rfl) ?_
            refine lv_aload_n C.1.1 C.1.2.1 d_Ai_who_28 rfl (lv_at hl 0 rfl) ?_
            refine x_get C hE hW fl_Ai_12 0 rfl rfl d_Ai_who_29 ?_
            refine x_get C hE hW fl_Ai_80 2 rfl rfl d_Ai_who_32 ?_
            refine lv_icmp_ge (tgt := 93) C.1.1 C.1.2.1 d_Ai_who_35 (by decide) (fun cc => ?_) (fun cc => ?_)
            · replace h := it_t cc h
              exact hJ93 _ h _ _ _ hW (lv_sub hl [2, 3] rfl)
            · replace h := it_f cc h
              refine lv_iconst (v := 1) C.1.1 C.1.2.1 d_Ai_who_38 (by decide) ?_
              refine lv_istore (lv' := [(5, .int 1), (0, .ref aA), (1, .int p1), (2, .int p2), (3, .int x33), (4, .int x34)]) C.1.1 C.1.2.1 d_Ai_who_39 hl (by decide) rfl (fun ls hl => ?_)
              refine jn_at (P := fun ((x47, x48, x49, x50, x51, x52, x53, x54, x55, x56, x57, x58, x59) : Int32 × Nat × Int32 × Int32 × Int32 × Int32 × Int32 × (Nat → Int64) × (Nat → Int64) × (Nat → Int64) × (Nat → Int64) × Int64 × Int64) => ∀ (H : Heap) (locs : List Loc) (ls : Array Slot), Wd G A s.heap H locs [(aA, .inr (3, [.ref aN, .ref A_draft, .ref aA_images, .ref aA_kept, .ref aS, .ref A_reader, .ref aA_refused, .ref aA_heardBy])), (aA_refused, .inl (gI G, 3, .inl A_refused)), (aN, .inr (0, [.int N_width, .int N_height, .long N_everywhere, .long N_firstColumn, .long N_lastColumn, .ref aN_grounds, .ref aN_airs, .ref aN_tolds, .ref aN_fees, .ref aN_lets, .int N_makers, .ref aN_kinds, .ref aN_cells, .ref aN_selves, .ref aN_cries, .int N_leaves, .ref aN_parts, .int N_pasts, .ref aN_past])), (aN_grounds, .inl (gJ G, 3, .inr (.inl N_grounds))), (aN_airs, .inl (gJ G, 6, .inr (.inl N_airs))), (aN_tolds, .inl (gJ G, 3, .inr (.inl N_tolds))), (aN_kinds, .inl (gI G, 6, .inl N_kinds)), (aN_cells, .inl (gI G, 6, .inl N_cells)), (aN_selves, .inl (gI G, 6, .inl N_selves)), (aN_parts, .inl (gI G, 40, .inl N_parts)), (aS, .inr (2, [.ref x48, .int x49, .int x50, .int x51, .int x52, .int x53, .ref aS_may, .ref aS_ways, .ref aS_echo, .ref aS_echoes, .long x58, .long x59])), (aS_may, .inl (gJ G, 21, .inr (.inl x54))), (aS_ways, .inl (gJ G, 21, .inr (.inl x55))), (aS_echo, .inl (gJ G, 21, .inr (.inl x56))), (aS_echoes, .inl (gJ G, 21, .inr (.inl x57)))] → lv_has ls 6 [(0, .ref aA), (1, .int p1), (2, .int p2), (3, .int x47), (4, .int x34)] → W p l e (RM 6 152) s m args below meth c H locs 0 0 Q (F0 m 87 ls [])) h ?_ ?_
              · skip
                intro x h
                obtain ⟨x47, x48, x49, x50, x51, x52, x53, x54, x55, x56, x57, x58, x59⟩ := x
                intro H locs ls hW hl
                obtain ⟨x60, ex60⟩ : ∃ y : Int32, y = x34 + 1 := ⟨_, rfl⟩
                replace h := lt_at ex60 h
                refine lv_iinc (v := x60) (lv' := [(4, .int x60), (0, .ref aA), (1, .int p1), (2, .int p2), (3, .int x47)]) C.1.1 C.1.2.1 d_Ai_who_87 hl (k := 4) rfl (by rw [ex60]; rfl) (by decide) rfl (fun ls hl => ?_)
                refine lv_goto (tgt := 26) C.1.1 C.1.2.1 d_Ai_who_90 (by decide) ?_
                exact ih26 _ h _ _ _ hW (lv_sub hl [1, 2, 3, 4, 0] rfl)
              · intro J87 hJ87 h
                refine lp_at (P := fun ((x61, x62, x63, x64, x65, x66, x67, x68, x69, x70, x71, x72, x73, x74) : Int32 × Int32 × Nat × Int32 × Int32 × Int32 × Int32 × Int32 × (Nat → Int64) × (Nat → Int64) × (Nat → Int64) × (Nat → Int64) × Int64 × Int64) => ∀ (H : Heap) (locs : List Loc) (ls : Array Slot), Wd G A s.heap H locs [(aA, .inr (3, [.ref aN, .ref A_draft, .ref aA_images, .ref aA_kept, .ref aS, .ref A_reader, .ref aA_refused, .ref aA_heardBy])), (aA_refused, .inl (gI G, 3, .inl A_refused)), (aN, .inr (0, [.int N_width, .int N_height, .long N_everywhere, .long N_firstColumn, .long N_lastColumn, .ref aN_grounds, .ref aN_airs, .ref aN_tolds, .ref aN_fees, .ref aN_lets, .int N_makers, .ref aN_kinds, .ref aN_cells, .ref aN_selves, .ref aN_cries, .int N_leaves, .ref aN_parts, .int N_pasts, .ref aN_past])), (aN_grounds, .inl (gJ G, 3, .inr (.inl N_grounds))), (aN_airs, .inl (gJ G, 6, .inr (.inl N_airs))), (aN_tolds, .inl (gJ G, 3, .inr (.inl N_tolds))), (aN_kinds, .inl (gI G, 6, .inl N_kinds)), (aN_cells, .inl (gI G, 6, .inl N_cells)), (aN_selves, .inl (gI G, 6, .inl N_selves)), (aN_parts, .inl (gI G, 40, .inl N_parts)), (aS, .inr (2, [.ref x63, .int x64, .int x65, .int x66, .int x67, .int x68, .ref aS_may, .ref aS_ways, .ref aS_echo, .ref aS_echoes, .long x73, .long x74])), (aS_may, .inl (gJ G, 21, .inr (.inl x69))), (aS_ways, .inl (gJ G, 21, .inr (.inl x70))), (aS_echo, .inl (gJ G, 21, .inr (.inl x71))), (aS_echoes, .inl (gJ G, 21, .inr (.inl x72)))] → lv_has ls 6 [(0, .ref aA), (1, .int p1), (2, .int p2), (3, .int x61), (4, .int x34), (5, .int x62)] → W p l e (RM 6 152) s m args below meth c H locs 0 0 Q (F0 m 41 ls [])) ?_ FU _ h _ _ _ hW (lv_sub hl [1, 2, 3, 4, 5, 0] rfl)
                clear h hl hW
                intro rec41 ih41
                intro x h
                obtain ⟨x61, x62, x63, x64, x65, x66, x67, x68, x69, x70, x71, x72, x73, x74⟩ := x
                unfold f_Ai_who_L41 at h
                intro H locs ls hW hl
                refine lv_iload C.1.1 C.1.2.1 d_Ai_who_41 (lv_at hl 5 rfl) ?_
                refine lv_bipush (v := 20) C.1.1 C.1.2.1 d_Ai_who_43 (by decide) ?_
                refine lv_icmp_gt (tgt := 87) C.1.1 C.1.2.1 d_Ai_who_45 (by decide) (fun cc => ?_) (fun cc => ?_)
                · replace h := it_t cc h
                  exact hJ87 _ h _ _ _ hW (lv_sub hl [0, 1, 2, 3, 4] rfl)
                · replace h := it_f cc h
                  refine lv_aload_n C.1.1 C.1.2.1 d_Ai_who_48 rfl (lv_at hl 0 rfl) ?_
                  refine lv_iload C.1.1 C.1.2.1 d_Ai_who_49 (lv_at hl 4 rfl) ?_
                  refine lv_iload C.1.1 C.1.2.1 d_Ai_who_51 (lv_at hl 5 rfl) ?_
                  refine lv_iload_n C.1.1 C.1.2.1 d_Ai_who_53 rfl (lv_at hl 1 rfl) ?_
                  obtain ⟨⟨x75, x76, x77, x78, x79, x80, x81, x82, x83, x84, x85⟩, hc86, h⟩ := bd_at h
                  refine x_callV (ws' := [(aA, .inr (3, [.ref aN, .ref A_draft, .ref aA_images, .ref aA_kept, .ref aS, .ref A_reader, .ref aA_refused, .ref aA_heardBy])), (aA_refused, .inl (gI G, 3, .inl A_refused)), (aN, .inr (0, [.int N_width, .int N_height, .long N_everywhere, .long N_firstColumn, .long N_lastColumn, .ref aN_grounds, .ref aN_airs, .ref aN_tolds, .ref aN_fees, .ref aN_lets, .int N_makers, .ref aN_kinds, .ref aN_cells, .ref aN_selves, .ref aN_cries, .int N_leaves, .ref aN_parts, .int N_pasts, .ref aN_past])), (aN_grounds, .inl (gJ G, 3, .inr (.inl N_grounds))), (aN_airs, .inl (gJ G, 6, .inr (.inl N_airs))), (aN_tolds, .inl (gJ G, 3, .inr (.inl N_tolds))), (aN_kinds, .inl (gI G, 6, .inl N_kinds)), (aN_cells, .inl (gI G, 6, .inl N_cells)), (aN_selves, .inl (gI G, 6, .inl N_selves)), (aN_parts, .inl (gI G, 40, .inl N_parts)), (aS, .inr (2, [.ref aN, .int x75, .int x76, .int x77, .int x78, .int x79, .ref aS_may, .ref aS_ways, .ref aS_echo, .ref aS_echoes, .long x84, .long x85])), (aS_may, .inl (gJ G, 21, .inr (.inl x80))), (aS_ways, .inl (gJ G, 21, .inr (.inl x81))), (aS_echo, .inl (gJ G, 21, .inr (.inl x82))), (aS_echoes, .inl (gJ G, 21, .inr (.inl x83)))]) (stk := []) (rest := []) (As := [.int x34, .int x62, .int p1]) (q0 := 0) C hE hW (c_Ai_makeSound l G aA aA_images aA_kept aA_refused aA_heardBy aN aN_grounds aN_airs aN_tolds aN_fees aN_lets aN_kinds aN_cells aN_selves aN_cries aN_parts aN_past aS aS_may aS_ways aS_echo aS_echoes A_draft A_reader N_width N_height N_everywhere N_firstColumn N_lastColumn N_makers N_leaves N_pasts x63 x64 x65 x66 x67 x68 x73 x74 N_grounds N_airs N_kinds N_cells N_selves N_parts x69 x70 x71 x72 x34 x62 p1 hc86) cv_Ai_makeSound tw558 hl rfl rfl (Nat.le_of_ble_eq_true rfl) rfl rfl rfl ⟨Nat.le_of_ble_eq_true rfl, Nat.le_of_ble_eq_true rfl⟩ ⟨Nat.zero_le _, Nat.zero_le _⟩ [0, 2, 3, 4, 6, 7, 8, 9, 10, 11, 12, 13, 14] [1, 5] [2, 0, 3, 4, 5, 1, 6, 7, 8, 9, 10, 11, 12, 13, 14] rfl rfl rfl (by decide) rfl rfl rfl rfl d_Ai_who_54 (fun H locs hW => ?_)
                  refine lv_aload_n C.1.1 C.1.2.1 d_Ai_who_57 rfl (lv_at hl 0 rfl) ?_
                  obtain ⟨x87, hc88, h⟩ := bd_at h
                  refine x_callV (ws' := [(aA, .inr (3, [.ref aN, .ref A_draft, .ref aA_images, .ref aA_kept, .ref aS, .ref A_reader, .ref aA_refused, .ref aA_heardBy])), (aA_refused, .inl (gI G, 3, .inl A_refused)), (aN, .inr (0, [.int N_width, .int N_height, .long N_everywhere, .long N_firstColumn, .long N_lastColumn, .ref aN_grounds, .ref aN_airs, .ref aN_tolds, .ref aN_fees, .ref aN_lets, .int N_makers, .ref aN_kinds, .ref aN_cells, .ref aN_selves, .ref aN_cries, .int N_leaves, .ref aN_parts, .int N_pasts, .ref aN_past])), (aN_grounds, .inl (gJ G, 3, .inr (.inl N_grounds))), (aN_airs, .inl (gJ G, 6, .inr (.inl N_airs))), (aN_tolds, .inl (gJ G, 3, .inr (.inl N_tolds))), (aN_kinds, .inl (gI G, 6, .inl N_kinds)), (aN_cells, .inl (gI G, 6, .inl N_cells)), (aN_selves, .inl (gI G, 6, .inl N_selves)), (aN_parts, .inl (gI G, 40, .inl N_parts)), (aS, .inr (2, [.ref aN, .int x75, .int x76, .int x77, .int x78, .int x79, .ref aS_may, .ref aS_ways, .ref aS_echo, .ref aS_echoes, .long x84, .long x85])), (aS_may, .inl (gJ G, 21, .inr (.inl x80))), (aS_ways, .inl (gJ G, 21, .inr (.inl x81))), (aS_echo, .inl (gJ G, 21, .inr (.inl x82))), (aS_echoes, .inl (gJ G, 21, .inr (.inl x83)))]) (stk := [.int x87]) (rest := []) (As := []) (q0 := 0) C hE hW (c_Ai_isAsTold l G aA aA_images aA_kept aA_refused aA_heardBy aN aN_grounds aN_airs aN_tolds aN_fees aN_lets aN_kinds aN_cells aN_selves aN_cries aN_parts aN_past aS aS_may aS_ways aS_echo aS_echoes A_draft A_reader N_width N_height N_everywhere N_firstColumn N_lastColumn N_makers N_leaves N_pasts aN x75 x76 x77 x78 x79 x84 x85 N_tolds hc88) cv_Ai_isAsTold tw693 hl rfl rfl (Nat.le_of_ble_eq_true rfl) rfl rfl rfl ⟨Nat.le_of_ble_eq_true rfl, Nat.le_of_ble_eq_true rfl⟩ ⟨Nat.zero_le _, Nat.zero_le _⟩ [0, 2, 5, 10] [1, 3, 4, 6, 7, 8, 9, 11, 12, 13, 14] [11, 0, 12, 1, 2, 13, 3, 4, 5, 6, 14, 7, 8, 9, 10] rfl rfl rfl (by decide) rfl rfl rfl rfl d_Ai_who_58 (fun H locs hW => ?_)
                  refine jn_at (P := fun (x89 : Int32) => ∀ (H : Heap) (locs : List Loc) (ls : Array Slot), Wd G A s.heap H locs [(aA, .inr (3, [.ref aN, .ref A_draft, .ref aA_images, .ref aA_kept, .ref aS, .ref A_reader, .ref aA_refused, .ref aA_heardBy])), (aA_refused, .inl (gI G, 3, .inl A_refused)), (aN, .inr (0, [.int N_width, .int N_height, .long N_everywhere, .long N_firstColumn, .long N_lastColumn, .ref aN_grounds, .ref aN_airs, .ref aN_tolds, .ref aN_fees, .ref aN_lets, .int N_makers, .ref aN_kinds, .ref aN_cells, .ref aN_selves, .ref aN_cries, .int N_leaves, .ref aN_parts, .int N_pasts, .ref aN_past])), (aN_grounds, .inl (gJ G, 3, .inr (.inl N_grounds))), (aN_airs, .inl (gJ G, 6, .inr (.inl N_airs))), (aN_tolds, .inl (gJ G, 3, .inr (.inl N_tolds))), (aN_kinds, .inl (gI G, 6, .inl N_kinds)), (aN_cells, .inl (gI G, 6, .inl N_cells)), (aN_selves, .inl (gI G, 6, .inl N_selves)), (aN_parts, .inl (gI G, 40, .inl N_parts)), (aS, .inr (2, [.ref aN, .int x75, .int x76, .int x77, .int x78, .int x79, .ref aS_may, .ref aS_ways, .ref aS_echo, .ref aS_echoes, .long x84, .long x85])), (aS_may, .inl (gJ G, 21, .inr (.inl x80))), (aS_ways, .inl (gJ G, 21, .inr (.inl x81))), (aS_echo, .inl (gJ G, 21, .inr (.inl x82))), (aS_echoes, .inl (gJ G, 21, .inr (.inl x83)))] → lv_has ls 6 [(0, .ref aA), (1, .int p1), (2, .int p2), (3, .int x89), (4, .int x34), (5, .int x62)] → W p l e (RM 6 152) s m args below meth c H locs 0 0 Q (F0 m 81 ls [])) h ?_ ?_
                  · skip
                    intro x89 h
                    intro H locs ls hW hl
                    obtain ⟨x90, ex90⟩ : ∃ y : Int32, y = x62 + 1 := ⟨_, rfl⟩
                    replace h := lt_at ex90 h
                    refine lv_iinc (v := x90) (lv' := [(5, .int x90), (0, .ref aA), (1, .int p1), (2, .int p2), (3, .int x89), (4, .int x34)]) C.1.1 C.1.2.1 d_Ai_who_81 hl (k := 5) rfl (by rw [ex90]; rfl) (by decide) rfl (fun ls hl => ?_)
                    refine lv_goto (tgt := 41) C.1.1 C.1.2.1 d_Ai_who_84 (by decide) ?_
                    exact ih41 _ h _ _ _ hW (lv_sub hl [1, 2, 3, 4, 5, 0] rfl)
                  · intro J81 hJ81 h
                    refine lv_if_eq (tgt := 81) C.1.1 C.1.2.1 d_Ai_who_61 (by decide) (fun cc => ?_) (fun cc => ?_)
                    · replace h := it_t cc h
                      exact hJ81 _ h _ _ _ hW (lv_sub hl [0, 1, 2, 3, 4, 5] rfl)
                    · replace h := it_f cc h
                      refine lv_iload_n C.1.1 C.1.2.1 d_Ai_who_64 rfl (lv_at hl 3 rfl) ?_
                      refine lv_iload_n C.1.1 C.1.2.1 d_Ai_who_65 rfl (lv_at hl 2 rfl) ?_
                      refine lv_icmp_ne (tgt := 78) C.1.1 C.1.2.1 d_Ai_who_66 (by decide) (fun cc => ?_) (fun cc => ?_)
                      · replace h := it_f cc h
                        obtain ⟨x91, ex91⟩ : ∃ y : Int32, y = x61 + 1 := ⟨_, rfl⟩
                        replace h := lt_at ex91 h
                        refine lv_iinc (v := x91) (lv' := [(3, .int x91), (0, .ref aA), (1, .int p1), (2, .int p2), (4, .int x34), (5, .int x62)]) C.1.1 C.1.2.1 d_Ai_who_78 hl (k := 3) rfl (by rw [ex91]; rfl) (by decide) rfl (fun ls hl => ?_)
                        exact hJ81 _ h _ _ _ hW (lv_sub hl [1, 2, 3, 0, 4, 5] rfl)
                      · replace h := it_t cc h
                        exact hJ69 _ h _ _ _ hW (lv_sub hl [4, 5] rfl)
      · replace h := it_f cc h
        exact hJ12 _ h _ _ _ hW (lv_sub hl [0] rfl)
set_option maxHeartbeats 4000000 in
set_option maxRecDepth 100000 in
theorem c_Ai_leavesIn (l : Launch) (G : Gl) (aA : Nat) (aA_images : Nat) (aA_kept : Nat) (aA_refused : Nat) (aA_heardBy : Nat) (aN : Nat) (aN_grounds : Nat) (aN_airs : Nat) (aN_tolds : Nat) (aN_fees : Nat) (aN_lets : Nat) (aN_kinds : Nat) (aN_cells : Nat) (aN_selves : Nat) (aN_cries : Nat) (aN_parts : Nat) (aN_past : Nat) (A_draft : Nat) (A_sound : Nat) (A_reader : Nat) (N_width : Int32) (N_height : Int32) (N_everywhere : Int64) (N_firstColumn : Int64) (N_lastColumn : Int64) (N_makers : Int32) (N_leaves : Int32) (N_pasts : Int32) (N_parts : Nat → Int32) (p1 : Int32) {res : Int32} (h : f_Ai_leavesIn N_leaves N_parts p1 = some res) : Ct l y_Ai_leavesIn b_Ai_leavesIn 4 (some .int) 2 45 G [.ref aA, .int p1] [(aA, .inr (3, [.ref aN, .ref A_draft, .ref aA_images, .ref aA_kept, .ref A_sound, .ref A_reader, .ref aA_refused, .ref aA_heardBy])), (aN, .inr (0, [.int N_width, .int N_height, .long N_everywhere, .long N_firstColumn, .long N_lastColumn, .ref aN_grounds, .ref aN_airs, .ref aN_tolds, .ref aN_fees, .ref aN_lets, .int N_makers, .ref aN_kinds, .ref aN_cells, .ref aN_selves, .ref aN_cries, .int N_leaves, .ref aN_parts, .int N_pasts, .ref aN_past])), (aN_parts, .inl (gI G, 40, .inl N_parts))] (some (.int res)) [(aA, .inr (3, [.ref aN, .ref A_draft, .ref aA_images, .ref aA_kept, .ref A_sound, .ref A_reader, .ref aA_refused, .ref aA_heardBy])), (aN, .inr (0, [.int N_width, .int N_height, .long N_everywhere, .long N_firstColumn, .long N_lastColumn, .ref aN_grounds, .ref aN_airs, .ref aN_tolds, .ref aN_fees, .ref aN_lets, .int N_makers, .ref aN_kinds, .ref aN_cells, .ref aN_selves, .ref aN_cries, .int N_leaves, .ref aN_parts, .int N_pasts, .ref aN_past])), (aN_parts, .inl (gI G, 40, .inl N_parts))] := by
  refine Ct.mk (by decide) (Nat.le_of_ble_eq_true rfl) ?_
  intro p e s m args below meth c ls A Q C hE hW hl hQ
  have C : Cx p s args m c meth "LentAir" y_Ai_leavesIn b_Ai_leavesIn 4 (some .int) := C
  have hl : lv_has ls 4 [(0, .ref aA), (1, .int p1)] := hl
  unfold f_Ai_leavesIn at h
  refine lv_iconst (v := 0) C.1.1 C.1.2.1 d_Ai_leavesIn_0 (by decide) ?_
  refine lv_istore_n (lv' := [(2, .int 0), (0, .ref aA), (1, .int p1)]) C.1.1 C.1.2.1 d_Ai_leavesIn_1 rfl hl (by decide) rfl (fun ls hl => ?_)
  refine lv_iconst (v := 0) C.1.1 C.1.2.1 d_Ai_leavesIn_2 (by decide) ?_
  refine lv_istore_n (lv' := [(3, .int 0), (2, .int 0), (0, .ref aA), (1, .int p1)]) C.1.1 C.1.2.1 d_Ai_leavesIn_3 rfl hl (by decide) rfl (fun ls hl => ?_)
  refine lp_at (P := fun ((x1, x2) : Int32 × Int32) => ∀ (H : Heap) (locs : List Loc) (ls : Array Slot), Wd G A s.heap H locs [(aA, .inr (3, [.ref aN, .ref A_draft, .ref aA_images, .ref aA_kept, .ref A_sound, .ref A_reader, .ref aA_refused, .ref aA_heardBy])), (aN, .inr (0, [.int N_width, .int N_height, .long N_everywhere, .long N_firstColumn, .long N_lastColumn, .ref aN_grounds, .ref aN_airs, .ref aN_tolds, .ref aN_fees, .ref aN_lets, .int N_makers, .ref aN_kinds, .ref aN_cells, .ref aN_selves, .ref aN_cries, .int N_leaves, .ref aN_parts, .int N_pasts, .ref aN_past])), (aN_parts, .inl (gI G, 40, .inl N_parts))] → lv_has ls 4 [(0, .ref aA), (1, .int p1), (2, .int x1), (3, .int x2)] → W p l e (RM 2 45) s m args below meth c H locs 0 0 Q (F0 m 4 ls [])) ?_ FU _ h _ _ _ hW (lv_sub hl [2, 3, 1, 0] rfl)
  clear h hl hW
  intro rec4 ih4
  intro x h
  obtain ⟨x1, x2⟩ := x
  unfold f_Ai_leavesIn_L4 at h
  intro H locs ls hW hl
  refine lv_iload_n C.1.1 C.1.2.1 d_Ai_leavesIn_4 rfl (lv_at hl 3 rfl) ?_
  refine lv_aload_n C.1.1 C.1.2.1 d_Ai_leavesIn_5 rfl (lv_at hl 0 rfl) ?_
  refine x_get C hE hW fl_Ai_12 0 rfl rfl d_Ai_leavesIn_6 ?_
  refine x_get C hE hW fl_Ai_97 1 rfl rfl d_Ai_leavesIn_9 ?_
  refine lv_icmp_ge (tgt := 39) C.1.1 C.1.2.1 d_Ai_leavesIn_12 (by decide) (fun cc => ?_) (fun cc => ?_)
  · replace h := it_t cc h
    refine lv_iload_n C.1.1 C.1.2.1 d_Ai_leavesIn_39 rfl (lv_at hl 2 rfl) ?_
    obtain rfl := Option.some.inj h
    exact x_iret C hW rfl rfl hQ d_Ai_leavesIn_40
  · replace h := it_f cc h
    refine lv_aload_n C.1.1 C.1.2.1 d_Ai_leavesIn_15 rfl (lv_at hl 0 rfl) ?_
    refine x_get C hE hW fl_Ai_12 0 rfl rfl d_Ai_leavesIn_16 ?_
    refine lv_iload_n C.1.1 C.1.2.1 d_Ai_leavesIn_19 rfl (lv_at hl 3 rfl) ?_
    refine lv_iload_n C.1.1 C.1.2.1 d_Ai_leavesIn_20 rfl (lv_at hl 1 rfl) ?_
    obtain ⟨x3, hc4, h⟩ := bd_at h
    refine x_callV (ws' := [(aA, .inr (3, [.ref aN, .ref A_draft, .ref aA_images, .ref aA_kept, .ref A_sound, .ref A_reader, .ref aA_refused, .ref aA_heardBy])), (aN, .inr (0, [.int N_width, .int N_height, .long N_everywhere, .long N_firstColumn, .long N_lastColumn, .ref aN_grounds, .ref aN_airs, .ref aN_tolds, .ref aN_fees, .ref aN_lets, .int N_makers, .ref aN_kinds, .ref aN_cells, .ref aN_selves, .ref aN_cries, .int N_leaves, .ref aN_parts, .int N_pasts, .ref aN_past])), (aN_parts, .inl (gI G, 40, .inl N_parts))]) (stk := [.int x3]) (rest := []) (As := [.int x2, .int p1]) (q0 := 1) C hE hW (c_Ld_isIn l G aN aN_grounds aN_airs aN_tolds aN_fees aN_lets aN_kinds aN_cells aN_selves aN_cries aN_parts aN_past N_width N_height N_everywhere N_firstColumn N_lastColumn N_makers N_leaves N_pasts N_parts x2 p1 hc4) cv_Ld_isIn tw709 hl rfl rfl (Nat.le_of_ble_eq_true rfl) rfl rfl rfl ⟨Nat.le_of_ble_eq_true rfl, Nat.le_of_ble_eq_true rfl⟩ ⟨Nat.zero_le _, Nat.zero_le _⟩ [1, 2] [0] [0, 1, 2] rfl rfl rfl (by decide) rfl rfl rfl rfl d_Ai_leavesIn_21 (fun H locs hW => ?_)
    refine jn_at (P := fun (x5 : Int32) => ∀ (H : Heap) (locs : List Loc) (ls : Array Slot), Wd G A s.heap H locs [(aA, .inr (3, [.ref aN, .ref A_draft, .ref aA_images, .ref aA_kept, .ref A_sound, .ref A_reader, .ref aA_refused, .ref aA_heardBy])), (aN, .inr (0, [.int N_width, .int N_height, .long N_everywhere, .long N_firstColumn, .long N_lastColumn, .ref aN_grounds, .ref aN_airs, .ref aN_tolds, .ref aN_fees, .ref aN_lets, .int N_makers, .ref aN_kinds, .ref aN_cells, .ref aN_selves, .ref aN_cries, .int N_leaves, .ref aN_parts, .int N_pasts, .ref aN_past])), (aN_parts, .inl (gI G, 40, .inl N_parts))] → lv_has ls 4 [(0, .ref aA), (1, .int p1), (2, .int x5), (3, .int x2)] → W p l e (RM 2 45) s m args below meth c H locs 0 0 Q (F0 m 33 ls [])) h ?_ ?_
    · skip
      intro x5 h
      intro H locs ls hW hl
      obtain ⟨x6, ex6⟩ : ∃ y : Int32, y = x2 + 1 := ⟨_, rfl⟩
      replace h := lt_at ex6 h
      refine lv_iinc (v := x6) (lv' := [(3, .int x6), (0, .ref aA), (1, .int p1), (2, .int x5)]) C.1.1 C.1.2.1 d_Ai_leavesIn_33 hl (k := 3) rfl (by rw [ex6]; rfl) (by decide) rfl (fun ls hl => ?_)
      refine lv_goto (tgt := 4) C.1.1 C.1.2.1 d_Ai_leavesIn_36 (by decide) ?_
      exact ih4 _ h _ _ _ hW (lv_sub hl [1, 2, 3, 0] rfl)
    · intro J33 hJ33 h
      refine lv_if_eq (tgt := 33) C.1.1 C.1.2.1 d_Ai_leavesIn_24 (by decide) (fun cc => ?_) (fun cc => ?_)
      · replace h := it_t cc h
        exact hJ33 _ h _ _ _ hW (lv_sub hl [0, 1, 2, 3] rfl)
      · replace h := it_f cc h
        refine lv_iload_n C.1.1 C.1.2.1 d_Ai_leavesIn_27 rfl (lv_at hl 2 rfl) ?_
        refine lv_iconst (v := 1) C.1.1 C.1.2.1 d_Ai_leavesIn_28 (by decide) ?_
        refine lv_iload_n C.1.1 C.1.2.1 d_Ai_leavesIn_29 rfl (lv_at hl 3 rfl) ?_
        refine lv_ishl C.1.1 C.1.2.1 d_Ai_leavesIn_30 ?_
        refine lv_ior C.1.1 C.1.2.1 d_Ai_leavesIn_31 ?_
        refine lv_topi (fun x7 ex7 => ?_)
        replace h := lt_at ex7 h
        refine lv_istore_n (lv' := [(2, .int x7), (0, .ref aA), (1, .int p1), (3, .int x2)]) C.1.1 C.1.2.1 d_Ai_leavesIn_32 rfl hl (by decide) rfl (fun ls hl => ?_)
        exact hJ33 _ h _ _ _ hW (lv_sub hl [1, 2, 0, 3] rfl)
set_option maxHeartbeats 4000000 in
set_option maxRecDepth 100000 in
theorem c_Ai_isStill (l : Launch) (G : Gl) (aA : Nat) (aA_images : Nat) (aA_kept : Nat) (aA_refused : Nat) (aA_heardBy : Nat) (aN : Nat) (aN_grounds : Nat) (aN_airs : Nat) (aN_tolds : Nat) (aN_fees : Nat) (aN_lets : Nat) (aN_kinds : Nat) (aN_cells : Nat) (aN_selves : Nat) (aN_cries : Nat) (aN_parts : Nat) (aN_past : Nat) (aS : Nat) (aS_may : Nat) (aS_ways : Nat) (aS_echo : Nat) (aS_echoes : Nat) (A_draft : Nat) (A_reader : Nat) (N_width : Int32) (N_height : Int32) (N_everywhere : Int64) (N_firstColumn : Int64) (N_lastColumn : Int64) (N_makers : Int32) (N_leaves : Int32) (N_pasts : Int32) (S_land : Nat) (S_maker : Int32) (S_loud : Int32) (S_hour : Int32) (S_bought : Int32) (S_gone : Int32) (S_straight : Int64) (S_all : Int64) (N_grounds : Nat → Int64) (N_airs : Nat → Int64) (N_kinds : Nat → Int32) (N_cells : Nat → Int32) (N_selves : Nat → Int32) (N_parts : Nat → Int32) (S_may : Nat → Int64) (S_ways : Nat → Int64) (S_echo : Nat → Int64) (S_echoes : Nat → Int64) (p1 : Int32) (p2 : Int32) (p3 : Int32) (p4 : Int32) {res : Int32 × Nat × Int32 × Int32 × Int32 × Int32 × Int32 × (Nat → Int64) × (Nat → Int64) × (Nat → Int64) × (Nat → Int64) × Int64 × Int64} (h : f_Ai_isStill aN N_width N_everywhere N_firstColumn N_lastColumn N_makers N_leaves S_land S_maker S_loud S_hour S_bought S_gone S_straight S_all N_grounds N_airs N_kinds N_cells N_selves N_parts S_may S_ways S_echo S_echoes p1 p2 p3 p4 = some res) : Ct l y_Ai_isStill b_Ai_isStill 6 (some .boolean) 5 129 G [.ref aA, .int p1, .int p2, .int p3, .int p4] [(aA, .inr (3, [.ref aN, .ref A_draft, .ref aA_images, .ref aA_kept, .ref aS, .ref A_reader, .ref aA_refused, .ref aA_heardBy])), (aN, .inr (0, [.int N_width, .int N_height, .long N_everywhere, .long N_firstColumn, .long N_lastColumn, .ref aN_grounds, .ref aN_airs, .ref aN_tolds, .ref aN_fees, .ref aN_lets, .int N_makers, .ref aN_kinds, .ref aN_cells, .ref aN_selves, .ref aN_cries, .int N_leaves, .ref aN_parts, .int N_pasts, .ref aN_past])), (aN_grounds, .inl (gJ G, 3, .inr (.inl N_grounds))), (aN_airs, .inl (gJ G, 6, .inr (.inl N_airs))), (aN_kinds, .inl (gI G, 6, .inl N_kinds)), (aN_cells, .inl (gI G, 6, .inl N_cells)), (aN_selves, .inl (gI G, 6, .inl N_selves)), (aN_parts, .inl (gI G, 40, .inl N_parts)), (aS, .inr (2, [.ref S_land, .int S_maker, .int S_loud, .int S_hour, .int S_bought, .int S_gone, .ref aS_may, .ref aS_ways, .ref aS_echo, .ref aS_echoes, .long S_straight, .long S_all])), (aS_may, .inl (gJ G, 21, .inr (.inl S_may))), (aS_ways, .inl (gJ G, 21, .inr (.inl S_ways))), (aS_echo, .inl (gJ G, 21, .inr (.inl S_echo))), (aS_echoes, .inl (gJ G, 21, .inr (.inl S_echoes)))] (some (.int res.1)) [(aA, .inr (3, [.ref aN, .ref A_draft, .ref aA_images, .ref aA_kept, .ref aS, .ref A_reader, .ref aA_refused, .ref aA_heardBy])), (aN, .inr (0, [.int N_width, .int N_height, .long N_everywhere, .long N_firstColumn, .long N_lastColumn, .ref aN_grounds, .ref aN_airs, .ref aN_tolds, .ref aN_fees, .ref aN_lets, .int N_makers, .ref aN_kinds, .ref aN_cells, .ref aN_selves, .ref aN_cries, .int N_leaves, .ref aN_parts, .int N_pasts, .ref aN_past])), (aN_grounds, .inl (gJ G, 3, .inr (.inl N_grounds))), (aN_airs, .inl (gJ G, 6, .inr (.inl N_airs))), (aN_kinds, .inl (gI G, 6, .inl N_kinds)), (aN_cells, .inl (gI G, 6, .inl N_cells)), (aN_selves, .inl (gI G, 6, .inl N_selves)), (aN_parts, .inl (gI G, 40, .inl N_parts)), (aS, .inr (2, [.ref (res.2.1), .int (res.2.2.1), .int (res.2.2.2.1), .int (res.2.2.2.2.1), .int (res.2.2.2.2.2.1), .int (res.2.2.2.2.2.2.1), .ref aS_may, .ref aS_ways, .ref aS_echo, .ref aS_echoes, .long (res.2.2.2.2.2.2.2.2.2.2.2.1), .long (res.2.2.2.2.2.2.2.2.2.2.2.2)])), (aS_may, .inl (gJ G, 21, .inr (.inl (res.2.2.2.2.2.2.2.1)))), (aS_ways, .inl (gJ G, 21, .inr (.inl (res.2.2.2.2.2.2.2.2.1)))), (aS_echo, .inl (gJ G, 21, .inr (.inl (res.2.2.2.2.2.2.2.2.2.1)))), (aS_echoes, .inl (gJ G, 21, .inr (.inl (res.2.2.2.2.2.2.2.2.2.2.1))))] := by
  refine Ct.mk (by decide) (Nat.le_of_ble_eq_true rfl) ?_
  intro p e s m args below meth c ls A Q C hE hW hl hQ
  have C : Cx p s args m c meth "LentAir" y_Ai_isStill b_Ai_isStill 6 (some .boolean) := C
  have hl : lv_has ls 6 [(0, .ref aA), (1, .int p1), (2, .int p2), (3, .int p3), (4, .int p4)] := hl
  unfold f_Ai_isStill at h
  refine lv_iconst (v := 0) C.1.1 C.1.2.1 d_Ai_isStill_0 (by decide) ?_
  refine lv_istore (lv' := [(5, .int 0), (0, .ref aA), (1, .int p1), (2, .int p2), (3, .int p3), (4, .int p4)]) C.1.1 C.1.2.1 d_Ai_isStill_1 hl (by decide) rfl (fun ls hl => ?_)
  refine lp_at (P := fun ((x1, x2, x3, x4, x5, x6, x7, x8, x9, x10, x11, x12, x13) : Int32 × Nat × Int32 × Int32 × Int32 × Int32 × Int32 × (Nat → Int64) × (Nat → Int64) × (Nat → Int64) × (Nat → Int64) × Int64 × Int64) => ∀ (H : Heap) (locs : List Loc) (ls : Array Slot), Wd G A s.heap H locs [(aA, .inr (3, [.ref aN, .ref A_draft, .ref aA_images, .ref aA_kept, .ref aS, .ref A_reader, .ref aA_refused, .ref aA_heardBy])), (aN, .inr (0, [.int N_width, .int N_height, .long N_everywhere, .long N_firstColumn, .long N_lastColumn, .ref aN_grounds, .ref aN_airs, .ref aN_tolds, .ref aN_fees, .ref aN_lets, .int N_makers, .ref aN_kinds, .ref aN_cells, .ref aN_selves, .ref aN_cries, .int N_leaves, .ref aN_parts, .int N_pasts, .ref aN_past])), (aN_grounds, .inl (gJ G, 3, .inr (.inl N_grounds))), (aN_airs, .inl (gJ G, 6, .inr (.inl N_airs))), (aN_kinds, .inl (gI G, 6, .inl N_kinds)), (aN_cells, .inl (gI G, 6, .inl N_cells)), (aN_selves, .inl (gI G, 6, .inl N_selves)), (aN_parts, .inl (gI G, 40, .inl N_parts)), (aS, .inr (2, [.ref x2, .int x3, .int x4, .int x5, .int x6, .int x7, .ref aS_may, .ref aS_ways, .ref aS_echo, .ref aS_echoes, .long x12, .long x13])), (aS_may, .inl (gJ G, 21, .inr (.inl x8))), (aS_ways, .inl (gJ G, 21, .inr (.inl x9))), (aS_echo, .inl (gJ G, 21, .inr (.inl x10))), (aS_echoes, .inl (gJ G, 21, .inr (.inl x11)))] → lv_has ls 6 [(0, .ref aA), (1, .int p1), (2, .int p2), (3, .int p3), (4, .int p4), (5, .int x1)] → W p l e (RM 5 129) s m args below meth c H locs 0 0 Q (F0 m 3 ls [])) ?_ FU _ h _ _ _ hW (lv_sub hl [1, 2, 3, 4, 5, 0] rfl)
  clear h hl hW
  intro rec3 ih3
  intro x h
  obtain ⟨x1, x2, x3, x4, x5, x6, x7, x8, x9, x10, x11, x12, x13⟩ := x
  unfold f_Ai_isStill_L3 at h
  intro H locs ls hW hl
  refine lv_iload C.1.1 C.1.2.1 d_Ai_isStill_3 (lv_at hl 5 rfl) ?_
  refine lv_aload_n C.1.1 C.1.2.1 d_Ai_isStill_5 rfl (lv_at hl 0 rfl) ?_
  refine x_get C hE hW fl_Ai_12 0 rfl rfl d_Ai_isStill_6 ?_
  refine x_get C hE hW fl_Ai_80 1 rfl rfl d_Ai_isStill_9 ?_
  refine lv_icmp_ge (tgt := 55) C.1.1 C.1.2.1 d_Ai_isStill_12 (by decide) (fun cc => ?_) (fun cc => ?_)
  · replace h := it_t cc h
    refine lv_iconst (v := 1) C.1.1 C.1.2.1 d_Ai_isStill_55 (by decide) ?_
    obtain rfl := Option.some.inj h
    exact x_zret C hW rfl rfl rfl hQ d_Ai_isStill_56
  · replace h := it_f cc h
    refine lv_aload_n C.1.1 C.1.2.1 d_Ai_isStill_15 rfl (lv_at hl 0 rfl) ?_
    refine x_get C hE hW fl_Ai_32 0 rfl rfl d_Ai_isStill_16 ?_
    refine lv_aload_n C.1.1 C.1.2.1 d_Ai_isStill_19 rfl (lv_at hl 0 rfl) ?_
    refine x_get C hE hW fl_Ai_12 0 rfl rfl d_Ai_isStill_20 ?_
    refine lv_iload C.1.1 C.1.2.1 d_Ai_isStill_23 (lv_at hl 5 rfl) ?_
    refine lv_iload_n C.1.1 C.1.2.1 d_Ai_isStill_25 rfl (lv_at hl 1 rfl) ?_
    refine lv_iload_n C.1.1 C.1.2.1 d_Ai_isStill_26 rfl (lv_at hl 2 rfl) ?_
    refine lv_iconst (v := 0) C.1.1 C.1.2.1 d_Ai_isStill_27 (by decide) ?_
    refine lv_iload C.1.1 C.1.2.1 d_Ai_isStill_28 (lv_at hl 4 rfl) ?_
    obtain ⟨⟨x14, x15, x16, x17, x18, x19, x20, x21, x22, x23, x24⟩, hc25, h⟩ := bd_at h
    refine x_callV (ws' := [(aA, .inr (3, [.ref aN, .ref A_draft, .ref aA_images, .ref aA_kept, .ref aS, .ref A_reader, .ref aA_refused, .ref aA_heardBy])), (aN, .inr (0, [.int N_width, .int N_height, .long N_everywhere, .long N_firstColumn, .long N_lastColumn, .ref aN_grounds, .ref aN_airs, .ref aN_tolds, .ref aN_fees, .ref aN_lets, .int N_makers, .ref aN_kinds, .ref aN_cells, .ref aN_selves, .ref aN_cries, .int N_leaves, .ref aN_parts, .int N_pasts, .ref aN_past])), (aN_grounds, .inl (gJ G, 3, .inr (.inl N_grounds))), (aN_airs, .inl (gJ G, 6, .inr (.inl N_airs))), (aN_kinds, .inl (gI G, 6, .inl N_kinds)), (aN_cells, .inl (gI G, 6, .inl N_cells)), (aN_selves, .inl (gI G, 6, .inl N_selves)), (aN_parts, .inl (gI G, 40, .inl N_parts)), (aS, .inr (2, [.ref aN, .int x14, .int x15, .int x16, .int x17, .int x18, .ref aS_may, .ref aS_ways, .ref aS_echo, .ref aS_echoes, .long x23, .long x24])), (aS_may, .inl (gJ G, 21, .inr (.inl x19))), (aS_ways, .inl (gJ G, 21, .inr (.inl x20))), (aS_echo, .inl (gJ G, 21, .inr (.inl x21))), (aS_echoes, .inl (gJ G, 21, .inr (.inl x22)))]) (stk := []) (rest := []) (As := [.ref aN, .int x1, .int p1, .int p2, .int 0, .int p4]) (q0 := 8) C hE hW (c_Sd_make l G aN aN_grounds aN_airs aN_tolds aN_fees aN_lets aN_kinds aN_cells aN_selves aN_cries aN_parts aN_past aS aS_may aS_ways aS_echo aS_echoes N_width N_height N_everywhere N_firstColumn N_lastColumn N_makers N_leaves N_pasts x2 x3 x4 x5 x6 x7 x12 x13 N_grounds N_airs N_kinds N_cells N_selves N_parts x8 x9 x10 x11 x1 p1 p2 0 p4 hc25) cv_Sd_make tw562 hl rfl rfl (Nat.le_of_ble_eq_true rfl) rfl rfl rfl ⟨Nat.le_of_ble_eq_true rfl, Nat.le_of_ble_eq_true rfl⟩ ⟨Nat.zero_le _, Nat.zero_le _⟩ [1, 2, 3, 4, 5, 6, 7, 8, 9, 10, 11, 12] [0] [0, 1, 2, 3, 4, 5, 6, 7, 8, 9, 10, 11, 12] rfl rfl rfl (by decide) rfl rfl rfl rfl d_Ai_isStill_30 (fun H locs hW => ?_)
    refine lv_aload_n C.1.1 C.1.2.1 d_Ai_isStill_33 rfl (lv_at hl 0 rfl) ?_
    refine x_get C hE hW fl_Ai_32 0 rfl rfl d_Ai_isStill_34 ?_
    refine x_get C hE hW fl_Ai_147 8 rfl rfl d_Ai_isStill_37 ?_
    refine lv_iload_n C.1.1 C.1.2.1 d_Ai_isStill_40 rfl (lv_at hl 3 rfl) ?_
    obtain ⟨x26, hc27, h⟩ := bd_at h
    refine x_callS (ws' := [(aA, .inr (3, [.ref aN, .ref A_draft, .ref aA_images, .ref aA_kept, .ref aS, .ref A_reader, .ref aA_refused, .ref aA_heardBy])), (aN, .inr (0, [.int N_width, .int N_height, .long N_everywhere, .long N_firstColumn, .long N_lastColumn, .ref aN_grounds, .ref aN_airs, .ref aN_tolds, .ref aN_fees, .ref aN_lets, .int N_makers, .ref aN_kinds, .ref aN_cells, .ref aN_selves, .ref aN_cries, .int N_leaves, .ref aN_parts, .int N_pasts, .ref aN_past])), (aN_grounds, .inl (gJ G, 3, .inr (.inl N_grounds))), (aN_airs, .inl (gJ G, 6, .inr (.inl N_airs))), (aN_kinds, .inl (gI G, 6, .inl N_kinds)), (aN_cells, .inl (gI G, 6, .inl N_cells)), (aN_selves, .inl (gI G, 6, .inl N_selves)), (aN_parts, .inl (gI G, 40, .inl N_parts)), (aS, .inr (2, [.ref aN, .int x14, .int x15, .int x16, .int x17, .int x18, .ref aS_may, .ref aS_ways, .ref aS_echo, .ref aS_echoes, .long x23, .long x24])), (aS_may, .inl (gJ G, 21, .inr (.inl x19))), (aS_ways, .inl (gJ G, 21, .inr (.inl x20))), (aS_echo, .inl (gJ G, 21, .inr (.inl x21))), (aS_echoes, .inl (gJ G, 21, .inr (.inl x22)))]) (stk := [.int x26]) (rest := []) (As := [.long x24, .int p3]) C hE hW (c_Ai_hasCell l G x24 p3 hc27) cv_Ai_hasCell tw668 hl rfl rfl (Nat.le_of_ble_eq_true rfl) ⟨Nat.le_of_ble_eq_true rfl, Nat.le_of_ble_eq_true rfl⟩ ⟨Nat.zero_le _, Nat.zero_le _⟩ [] [0, 1, 2, 3, 4, 5, 6, 7, 8, 9, 10, 11, 12] [0, 1, 2, 3, 4, 5, 6, 7, 8, 9, 10, 11, 12] rfl rfl rfl (by decide) rfl rfl rfl rfl d_Ai_isStill_41 (fun H locs hW => ?_)
    refine lv_if_eq (tgt := 49) C.1.1 C.1.2.1 d_Ai_isStill_44 (by decide) (fun cc => ?_) (fun cc => ?_)
    · replace h := it_t cc h
      obtain ⟨x28, ex28⟩ : ∃ y : Int32, y = x1 + 1 := ⟨_, rfl⟩
      replace h := lt_at ex28 h
      refine lv_iinc (v := x28) (lv' := [(5, .int x28), (0, .ref aA), (1, .int p1), (2, .int p2), (3, .int p3), (4, .int p4)]) C.1.1 C.1.2.1 d_Ai_isStill_49 hl (k := 5) rfl (by rw [ex28]; rfl) (by decide) rfl (fun ls hl => ?_)
      refine lv_goto (tgt := 3) C.1.1 C.1.2.1 d_Ai_isStill_52 (by decide) ?_
      exact ih3 _ h _ _ _ hW (lv_sub hl [1, 2, 3, 4, 5, 0] rfl)
    · replace h := it_f cc h
      refine lv_iconst (v := 0) C.1.1 C.1.2.1 d_Ai_isStill_47 (by decide) ?_
      obtain rfl := Option.some.inj h
      exact x_zret C hW rfl rfl rfl hQ d_Ai_isStill_48
set_option maxHeartbeats 4000000 in
set_option maxRecDepth 100000 in
theorem c_Ai_still (l : Launch) (G : Gl) (aA : Nat) (aA_images : Nat) (aA_kept : Nat) (aA_refused : Nat) (aA_heardBy : Nat) (aN : Nat) (aN_grounds : Nat) (aN_airs : Nat) (aN_tolds : Nat) (aN_fees : Nat) (aN_lets : Nat) (aN_kinds : Nat) (aN_cells : Nat) (aN_selves : Nat) (aN_cries : Nat) (aN_parts : Nat) (aN_past : Nat) (aS : Nat) (aS_may : Nat) (aS_ways : Nat) (aS_echo : Nat) (aS_echoes : Nat) (A_draft : Nat) (A_reader : Nat) (N_width : Int32) (N_height : Int32) (N_everywhere : Int64) (N_firstColumn : Int64) (N_lastColumn : Int64) (N_makers : Int32) (N_leaves : Int32) (N_pasts : Int32) (S_land : Nat) (S_maker : Int32) (S_loud : Int32) (S_hour : Int32) (S_bought : Int32) (S_gone : Int32) (S_straight : Int64) (S_all : Int64) (A_refused : Nat → Int32) (N_grounds : Nat → Int64) (N_airs : Nat → Int64) (N_kinds : Nat → Int32) (N_cells : Nat → Int32) (N_selves : Nat → Int32) (N_parts : Nat → Int32) (S_may : Nat → Int64) (S_ways : Nat → Int64) (S_echo : Nat → Int64) (S_echoes : Nat → Int64) (p1 : Int32) (p2 : Int32) (p3 : Int32) {res : Int32 × (Nat → Int32) × Nat × Int32 × Int32 × Int32 × Int32 × Int32 × (Nat → Int64) × (Nat → Int64) × (Nat → Int64) × (Nat → Int64) × Int64 × Int64} (h : f_Ai_still aN N_width N_height N_everywhere N_firstColumn N_lastColumn N_makers N_leaves S_land S_maker S_loud S_hour S_bought S_gone S_straight S_all A_refused N_grounds N_airs N_kinds N_cells N_selves N_parts S_may S_ways S_echo S_echoes p1 p2 p3 = some res) : Ct l y_Ai_still b_Ai_still 8 (some .int) 6 154 G [.ref aA, .int p1, .int p2, .int p3] [(aA, .inr (3, [.ref aN, .ref A_draft, .ref aA_images, .ref aA_kept, .ref aS, .ref A_reader, .ref aA_refused, .ref aA_heardBy])), (aA_refused, .inl (gI G, 3, .inl A_refused)), (aN, .inr (0, [.int N_width, .int N_height, .long N_everywhere, .long N_firstColumn, .long N_lastColumn, .ref aN_grounds, .ref aN_airs, .ref aN_tolds, .ref aN_fees, .ref aN_lets, .int N_makers, .ref aN_kinds, .ref aN_cells, .ref aN_selves, .ref aN_cries, .int N_leaves, .ref aN_parts, .int N_pasts, .ref aN_past])), (aN_grounds, .inl (gJ G, 3, .inr (.inl N_grounds))), (aN_airs, .inl (gJ G, 6, .inr (.inl N_airs))), (aN_kinds, .inl (gI G, 6, .inl N_kinds)), (aN_cells, .inl (gI G, 6, .inl N_cells)), (aN_selves, .inl (gI G, 6, .inl N_selves)), (aN_parts, .inl (gI G, 40, .inl N_parts)), (aS, .inr (2, [.ref S_land, .int S_maker, .int S_loud, .int S_hour, .int S_bought, .int S_gone, .ref aS_may, .ref aS_ways, .ref aS_echo, .ref aS_echoes, .long S_straight, .long S_all])), (aS_may, .inl (gJ G, 21, .inr (.inl S_may))), (aS_ways, .inl (gJ G, 21, .inr (.inl S_ways))), (aS_echo, .inl (gJ G, 21, .inr (.inl S_echo))), (aS_echoes, .inl (gJ G, 21, .inr (.inl S_echoes)))] (some (.int res.1)) [(aA, .inr (3, [.ref aN, .ref A_draft, .ref aA_images, .ref aA_kept, .ref aS, .ref A_reader, .ref aA_refused, .ref aA_heardBy])), (aA_refused, .inl (gI G, 3, .inl (res.2.1))), (aN, .inr (0, [.int N_width, .int N_height, .long N_everywhere, .long N_firstColumn, .long N_lastColumn, .ref aN_grounds, .ref aN_airs, .ref aN_tolds, .ref aN_fees, .ref aN_lets, .int N_makers, .ref aN_kinds, .ref aN_cells, .ref aN_selves, .ref aN_cries, .int N_leaves, .ref aN_parts, .int N_pasts, .ref aN_past])), (aN_grounds, .inl (gJ G, 3, .inr (.inl N_grounds))), (aN_airs, .inl (gJ G, 6, .inr (.inl N_airs))), (aN_kinds, .inl (gI G, 6, .inl N_kinds)), (aN_cells, .inl (gI G, 6, .inl N_cells)), (aN_selves, .inl (gI G, 6, .inl N_selves)), (aN_parts, .inl (gI G, 40, .inl N_parts)), (aS, .inr (2, [.ref (res.2.2.1), .int (res.2.2.2.1), .int (res.2.2.2.2.1), .int (res.2.2.2.2.2.1), .int (res.2.2.2.2.2.2.1), .int (res.2.2.2.2.2.2.2.1), .ref aS_may, .ref aS_ways, .ref aS_echo, .ref aS_echoes, .long (res.2.2.2.2.2.2.2.2.2.2.2.2.1), .long (res.2.2.2.2.2.2.2.2.2.2.2.2.2)])), (aS_may, .inl (gJ G, 21, .inr (.inl (res.2.2.2.2.2.2.2.2.1)))), (aS_ways, .inl (gJ G, 21, .inr (.inl (res.2.2.2.2.2.2.2.2.2.1)))), (aS_echo, .inl (gJ G, 21, .inr (.inl (res.2.2.2.2.2.2.2.2.2.2.1)))), (aS_echoes, .inl (gJ G, 21, .inr (.inl (res.2.2.2.2.2.2.2.2.2.2.2.1))))] := by
  refine Ct.mk (by decide) (Nat.le_of_ble_eq_true rfl) ?_
  intro p e s m args below meth c ls A Q C hE hW hl hQ
  have C : Cx p s args m c meth "LentAir" y_Ai_still b_Ai_still 8 (some .int) := C
  have hl : lv_has ls 8 [(0, .ref aA), (1, .int p1), (2, .int p2), (3, .int p3)] := hl
  unfold f_Ai_still at h
  refine lv_iload_n C.1.1 C.1.2.1 d_Ai_still_0 rfl (lv_at hl 1 rfl) ?_
  obtain ⟨x1, hc2, h⟩ := bd_at h
  refine x_callS (ws' := [(aA, .inr (3, [.ref aN, .ref A_draft, .ref aA_images, .ref aA_kept, .ref aS, .ref A_reader, .ref aA_refused, .ref aA_heardBy])), (aA_refused, .inl (gI G, 3, .inl A_refused)), (aN, .inr (0, [.int N_width, .int N_height, .long N_everywhere, .long N_firstColumn, .long N_lastColumn, .ref aN_grounds, .ref aN_airs, .ref aN_tolds, .ref aN_fees, .ref aN_lets, .int N_makers, .ref aN_kinds, .ref aN_cells, .ref aN_selves, .ref aN_cries, .int N_leaves, .ref aN_parts, .int N_pasts, .ref aN_past])), (aN_grounds, .inl (gJ G, 3, .inr (.inl N_grounds))), (aN_airs, .inl (gJ G, 6, .inr (.inl N_airs))), (aN_kinds, .inl (gI G, 6, .inl N_kinds)), (aN_cells, .inl (gI G, 6, .inl N_cells)), (aN_selves, .inl (gI G, 6, .inl N_selves)), (aN_parts, .inl (gI G, 40, .inl N_parts)), (aS, .inr (2, [.ref S_land, .int S_maker, .int S_loud, .int S_hour, .int S_bought, .int S_gone, .ref aS_may, .ref aS_ways, .ref aS_echo, .ref aS_echoes, .long S_straight, .long S_all])), (aS_may, .inl (gJ G, 21, .inr (.inl S_may))), (aS_ways, .inl (gJ G, 21, .inr (.inl S_ways))), (aS_echo, .inl (gJ G, 21, .inr (.inl S_echo))), (aS_echoes, .inl (gJ G, 21, .inr (.inl S_echoes)))]) (stk := [.int x1]) (rest := []) (As := [.int p1]) C hE hW (c_Ai_isLoud l G p1 hc2) cv_Ai_isLoud tw365 hl rfl rfl (Nat.le_of_ble_eq_true rfl) ⟨Nat.le_of_ble_eq_true rfl, Nat.le_of_ble_eq_true rfl⟩ ⟨Nat.zero_le _, Nat.zero_le _⟩ [] [0, 1, 2, 3, 4, 5, 6, 7, 8, 9, 10, 11, 12, 13] [0, 1, 2, 3, 4, 5, 6, 7, 8, 9, 10, 11, 12, 13] rfl rfl rfl (by decide) rfl rfl rfl rfl d_Ai_still_1 (fun H locs hW => ?_)
  refine jn_at (P := fun (_ : Unit) => ∀ (H : Heap) (locs : List Loc) (ls : Array Slot), Wd G A s.heap H locs [(aA, .inr (3, [.ref aN, .ref A_draft, .ref aA_images, .ref aA_kept, .ref aS, .ref A_reader, .ref aA_refused, .ref aA_heardBy])), (aA_refused, .inl (gI G, 3, .inl A_refused)), (aN, .inr (0, [.int N_width, .int N_height, .long N_everywhere, .long N_firstColumn, .long N_lastColumn, .ref aN_grounds, .ref aN_airs, .ref aN_tolds, .ref aN_fees, .ref aN_lets, .int N_makers, .ref aN_kinds, .ref aN_cells, .ref aN_selves, .ref aN_cries, .int N_leaves, .ref aN_parts, .int N_pasts, .ref aN_past])), (aN_grounds, .inl (gJ G, 3, .inr (.inl N_grounds))), (aN_airs, .inl (gJ G, 6, .inr (.inl N_airs))), (aN_kinds, .inl (gI G, 6, .inl N_kinds)), (aN_cells, .inl (gI G, 6, .inl N_cells)), (aN_selves, .inl (gI G, 6, .inl N_selves)), (aN_parts, .inl (gI G, 40, .inl N_parts)), (aS, .inr (2, [.ref S_land, .int S_maker, .int S_loud, .int S_hour, .int S_bought, .int S_gone, .ref aS_may, .ref aS_ways, .ref aS_echo, .ref aS_echoes, .long S_straight, .long S_all])), (aS_may, .inl (gJ G, 21, .inr (.inl S_may))), (aS_ways, .inl (gJ G, 21, .inr (.inl S_ways))), (aS_echo, .inl (gJ G, 21, .inr (.inl S_echo))), (aS_echoes, .inl (gJ G, 21, .inr (.inl S_echoes)))] → lv_has ls 8 [(0, .ref aA)] → W p l e (RM 6 154) s m args below meth c H locs 0 0 Q (F0 m 22 ls [])) h ?_ ?_
  · skip
    intro _ h
    intro H locs ls hW hl
    refine lv_aload_n C.1.1 C.1.2.1 d_Ai_still_22 rfl (lv_at hl 0 rfl) ?_
    refine lv_bipush (v := (-2)) C.1.1 C.1.2.1 d_Ai_still_23 (by decide) ?_
    obtain ⟨⟨x3, x4⟩, hc5, h⟩ := bd_at h
    refine x_callV (ws' := [(aA, .inr (3, [.ref aN, .ref A_draft, .ref aA_images, .ref aA_kept, .ref aS, .ref A_reader, .ref aA_refused, .ref aA_heardBy])), (aA_refused, .inl (gI G, 3, .inl x4)), (aN, .inr (0, [.int N_width, .int N_height, .long N_everywhere, .long N_firstColumn, .long N_lastColumn, .ref aN_grounds, .ref aN_airs, .ref aN_tolds, .ref aN_fees, .ref aN_lets, .int N_makers, .ref aN_kinds, .ref aN_cells, .ref aN_selves, .ref aN_cries, .int N_leaves, .ref aN_parts, .int N_pasts, .ref aN_past])), (aN_grounds, .inl (gJ G, 3, .inr (.inl N_grounds))), (aN_airs, .inl (gJ G, 6, .inr (.inl N_airs))), (aN_kinds, .inl (gI G, 6, .inl N_kinds)), (aN_cells, .inl (gI G, 6, .inl N_cells)), (aN_selves, .inl (gI G, 6, .inl N_selves)), (aN_parts, .inl (gI G, 40, .inl N_parts)), (aS, .inr (2, [.ref S_land, .int S_maker, .int S_loud, .int S_hour, .int S_bought, .int S_gone, .ref aS_may, .ref aS_ways, .ref aS_echo, .ref aS_echoes, .long S_straight, .long S_all])), (aS_may, .inl (gJ G, 21, .inr (.inl S_may))), (aS_ways, .inl (gJ G, 21, .inr (.inl S_ways))), (aS_echo, .inl (gJ G, 21, .inr (.inl S_echo))), (aS_echoes, .inl (gJ G, 21, .inr (.inl S_echoes)))]) (stk := [.int x3]) (rest := []) (As := [.int (-2)]) (q0 := 0) C hE hW (c_Ai_refuse l G aA aA_images aA_kept aA_refused aA_heardBy aN A_draft aS A_reader A_refused (-2) hc5) cv_Ai_refuse tw308 hl rfl rfl (Nat.le_of_ble_eq_true rfl) rfl rfl rfl ⟨Nat.le_of_ble_eq_true rfl, Nat.le_of_ble_eq_true rfl⟩ ⟨Nat.zero_le _, Nat.zero_le _⟩ [0, 1] [2, 3, 4, 5, 6, 7, 8, 9, 10, 11, 12, 13] [12, 13, 0, 1, 2, 3, 4, 5, 6, 7, 8, 9, 10, 11] rfl rfl rfl (by decide) rfl rfl rfl rfl d_Ai_still_25 (fun H locs hW => ?_)
    obtain rfl := Option.some.inj h
    exact x_iret C hW rfl rfl hQ d_Ai_still_28
  · intro J22 hJ22 h
    refine lv_if_eq (tgt := 22) C.1.1 C.1.2.1 d_Ai_still_4 (by decide) (fun cc => ?_) (fun cc => ?_)
    · replace h := it_t cc h
      exact hJ22 _ h _ _ _ hW (lv_sub hl [0] rfl)
    · replace h := it_f cc h
      refine lv_iload_n C.1.1 C.1.2.1 d_Ai_still_7 rfl (lv_at hl 2 rfl) ?_
      obtain ⟨x6, hc7, h⟩ := bd_at h
      refine x_callS (ws' := [(aA, .inr (3, [.ref aN, .ref A_draft, .ref aA_images, .ref aA_kept, .ref aS, .ref A_reader, .ref aA_refused, .ref aA_heardBy])), (aA_refused, .inl (gI G, 3, .inl A_refused)), (aN, .inr (0, [.int N_width, .int N_height, .long N_everywhere, .long N_firstColumn, .long N_lastColumn, .ref aN_grounds, .ref aN_airs, .ref aN_tolds, .ref aN_fees, .ref aN_lets, .int N_makers, .ref aN_kinds, .ref aN_cells, .ref aN_selves, .ref aN_cries, .int N_leaves, .ref aN_parts, .int N_pasts, .ref aN_past])), (aN_grounds, .inl (gJ G, 3, .inr (.inl N_grounds))), (aN_airs, .inl (gJ G, 6, .inr (.inl N_airs))), (aN_kinds, .inl (gI G, 6, .inl N_kinds)), (aN_cells, .inl (gI G, 6, .inl N_cells)), (aN_selves, .inl (gI G, 6, .inl N_selves)), (aN_parts, .inl (gI G, 40, .inl N_parts)), (aS, .inr (2, [.ref S_land, .int S_maker, .int S_loud, .int S_hour, .int S_bought, .int S_gone, .ref aS_may, .ref aS_ways, .ref aS_echo, .ref aS_echoes, .long S_straight, .long S_all])), (aS_may, .inl (gJ G, 21, .inr (.inl S_may))), (aS_ways, .inl (gJ G, 21, .inr (.inl S_ways))), (aS_echo, .inl (gJ G, 21, .inr (.inl S_echo))), (aS_echoes, .inl (gJ G, 21, .inr (.inl S_echoes)))]) (stk := [.int x6]) (rest := []) (As := [.int p2]) C hE hW (c_Ai_isHour l G p2 hc7) cv_Ai_isHour tw362 hl rfl rfl (Nat.le_of_ble_eq_true rfl) ⟨Nat.le_of_ble_eq_true rfl, Nat.le_of_ble_eq_true rfl⟩ ⟨Nat.zero_le _, Nat.zero_le _⟩ [] [0, 1, 2, 3, 4, 5, 6, 7, 8, 9, 10, 11, 12, 13] [0, 1, 2, 3, 4, 5, 6, 7, 8, 9, 10, 11, 12, 13] rfl rfl rfl (by decide) rfl rfl rfl rfl d_Ai_still_8 (fun H locs hW => ?_)
      refine lv_if_eq (tgt := 22) C.1.1 C.1.2.1 d_Ai_still_11 (by decide) (fun cc => ?_) (fun cc => ?_)
      · replace h := it_t cc h
        exact hJ22 _ h _ _ _ hW (lv_sub hl [0] rfl)
      · replace h := it_f cc h
        refine lv_aload_n C.1.1 C.1.2.1 d_Ai_still_14 rfl (lv_at hl 0 rfl) ?_
        refine lv_iload_n C.1.1 C.1.2.1 d_Ai_still_15 rfl (lv_at hl 3 rfl) ?_
        obtain ⟨x8, hc9, h⟩ := bd_at h
        refine x_callV (ws' := [(aA, .inr (3, [.ref aN, .ref A_draft, .ref aA_images, .ref aA_kept, .ref aS, .ref A_reader, .ref aA_refused, .ref aA_heardBy])), (aA_refused, .inl (gI G, 3, .inl A_refused)), (aN, .inr (0, [.int N_width, .int N_height, .long N_everywhere, .long N_firstColumn, .long N_lastColumn, .ref aN_grounds, .ref aN_airs, .ref aN_tolds, .ref aN_fees, .ref aN_lets, .int N_makers, .ref aN_kinds, .ref aN_cells, .ref aN_selves, .ref aN_cries, .int N_leaves, .ref aN_parts, .int N_pasts, .ref aN_past])), (aN_grounds, .inl (gJ G, 3, .inr (.inl N_grounds))), (aN_airs, .inl (gJ G, 6, .inr (.inl N_airs))), (aN_kinds, .inl (gI G, 6, .inl N_kinds)), (aN_cells, .inl (gI G, 6, .inl N_cells)), (aN_selves, .inl (gI G, 6, .inl N_selves)), (aN_parts, .inl (gI G, 40, .inl N_parts)), (aS, .inr (2, [.ref S_land, .int S_maker, .int S_loud, .int S_hour, .int S_bought, .int S_gone, .ref aS_may, .ref aS_ways, .ref aS_echo, .ref aS_echoes, .long S_straight, .long S_all])), (aS_may, .inl (gJ G, 21, .inr (.inl S_may))), (aS_ways, .inl (gJ G, 21, .inr (.inl S_ways))), (aS_echo, .inl (gJ G, 21, .inr (.inl S_echo))), (aS_echoes, .inl (gJ G, 21, .inr (.inl S_echoes)))]) (stk := [.int x8]) (rest := []) (As := [.int p3]) (q0 := 0) C hE hW (c_Ai_isCell l G aA aA_images aA_kept aA_refused aA_heardBy aN aN_grounds aN_airs aN_tolds aN_fees aN_lets aN_kinds aN_cells aN_selves aN_cries aN_parts aN_past A_draft aS A_reader N_width N_height N_everywhere N_firstColumn N_lastColumn N_makers N_leaves N_pasts p3 hc9) cv_Ai_isCell tw321 hl rfl rfl (Nat.le_of_ble_eq_true rfl) rfl rfl rfl ⟨Nat.le_of_ble_eq_true rfl, Nat.le_of_ble_eq_true rfl⟩ ⟨Nat.zero_le _, Nat.zero_le _⟩ [0, 2] [1, 3, 4, 5, 6, 7, 8, 9, 10, 11, 12, 13] [12, 0, 13, 1, 2, 3, 4, 5, 6, 7, 8, 9, 10, 11] rfl rfl rfl (by decide) rfl rfl rfl rfl d_Ai_still_16 (fun H locs hW => ?_)
        refine lv_if_ne (tgt := 29) C.1.1 C.1.2.1 d_Ai_still_19 (by decide) (fun cc => ?_) (fun cc => ?_)
        · replace h := it_f cc h
          refine lv_aload_n C.1.1 C.1.2.1 d_Ai_still_29 rfl (lv_at hl 0 rfl) ?_
          refine lv_iload_n C.1.1 C.1.2.1 d_Ai_still_30 rfl (lv_at hl 2 rfl) ?_
          obtain ⟨x10, hc11, h⟩ := bd_at h
          refine x_callV (ws' := [(aA, .inr (3, [.ref aN, .ref A_draft, .ref aA_images, .ref aA_kept, .ref aS, .ref A_reader, .ref aA_refused, .ref aA_heardBy])), (aA_refused, .inl (gI G, 3, .inl A_refused)), (aN, .inr (0, [.int N_width, .int N_height, .long N_everywhere, .long N_firstColumn, .long N_lastColumn, .ref aN_grounds, .ref aN_airs, .ref aN_tolds, .ref aN_fees, .ref aN_lets, .int N_makers, .ref aN_kinds, .ref aN_cells, .ref aN_selves, .ref aN_cries, .int N_leaves, .ref aN_parts, .int N_pasts, .ref aN_past])), (aN_grounds, .inl (gJ G, 3, .inr (.inl N_grounds))), (aN_airs, .inl (gJ G, 6, .inr (.inl N_airs))), (aN_kinds, .inl (gI G, 6, .inl N_kinds)), (aN_cells, .inl (gI G, 6, .inl N_cells)), (aN_selves, .inl (gI G, 6, .inl N_selves)), (aN_parts, .inl (gI G, 40, .inl N_parts)), (aS, .inr (2, [.ref S_land, .int S_maker, .int S_loud, .int S_hour, .int S_bought, .int S_gone, .ref aS_may, .ref aS_ways, .ref aS_echo, .ref aS_echoes, .long S_straight, .long S_all])), (aS_may, .inl (gJ G, 21, .inr (.inl S_may))), (aS_ways, .inl (gJ G, 21, .inr (.inl S_ways))), (aS_echo, .inl (gJ G, 21, .inr (.inl S_echo))), (aS_echoes, .inl (gJ G, 21, .inr (.inl S_echoes)))]) (stk := [.int x10]) (rest := []) (As := [.int p2]) (q0 := 0) C hE hW (c_Ai_leavesIn l G aA aA_images aA_kept aA_refused aA_heardBy aN aN_grounds aN_airs aN_tolds aN_fees aN_lets aN_kinds aN_cells aN_selves aN_cries aN_parts aN_past A_draft aS A_reader N_width N_height N_everywhere N_firstColumn N_lastColumn N_makers N_leaves N_pasts N_parts p2 hc11) cv_Ai_leavesIn tw705 hl rfl rfl (Nat.le_of_ble_eq_true rfl) rfl rfl rfl ⟨Nat.le_of_ble_eq_true rfl, Nat.le_of_ble_eq_true rfl⟩ ⟨Nat.zero_le _, Nat.zero_le _⟩ [0, 2, 8] [1, 3, 4, 5, 6, 7, 9, 10, 11, 12, 13] [11, 0, 12, 1, 2, 3, 4, 5, 13, 6, 7, 8, 9, 10] rfl rfl rfl (by decide) rfl rfl rfl rfl d_Ai_still_31 (fun H locs hW => ?_)
          refine lv_istore (lv' := [(4, .int x10), (0, .ref aA), (1, .int p1), (2, .int p2), (3, .int p3)]) C.1.1 C.1.2.1 d_Ai_still_34 hl (by decide) rfl (fun ls hl => ?_)
          refine lv_aload_n C.1.1 C.1.2.1 d_Ai_still_36 rfl (lv_at hl 1 rfl) ?_
          refine lv_iload_n C.1.1 C.1.2.1 d_Ai_still_37 rfl (lv_at hl 2 rfl) ?_
          refine lv_iload_n C.1.1 C.1.2.1 d_Ai_still_38 rfl (lv_at hl 3 rfl) ?_
          refine lv_iload_n C.1.1 C.1.2.1 d_Ai_still_39 rfl (lv_at hl 4 rfl) ?_
          refine lv_iload C.1.1 C.1.2.1 d_Ai_still_40 (lv_at hl 0 rfl) ?_
          obtain ⟨⟨x12, x13, x14, x15, x16, x17, x18, x19, x20, x21, x22, x23, x24⟩, hc25, h⟩ := bd_at h
          refine x_callV (ws' := [(aA, .inr (3, [.ref aN, .ref A_draft, .ref aA_images, .ref aA_kept, .ref aS, .ref A_reader, .ref aA_refused, .ref aA_heardBy])), (aA_refused, .inl (gI G, 3, .inl A_refused)), (aN, .inr (0, [.int N_width, .int N_height, .long N_everywhere, .long N_firstColumn, .long N_lastColumn, .ref aN_grounds, .ref aN_airs, .ref aN_tolds, .ref aN_fees, .ref aN_lets, .int N_makers, .ref aN_kinds, .ref aN_cells, .ref aN_selves, .ref aN_cries, .int N_leaves, .ref aN_parts, .int N_pasts, .ref aN_past])), (aN_grounds, .inl (gJ G, 3, .inr (.inl N_grounds))), (aN_airs, .inl (gJ G, 6, .inr (.inl N_airs))), (aN_kinds, .inl (gI G, 6, .inl N_kinds)), (aN_cells, .inl (gI G, 6, .inl N_cells)), (aN_selves, .inl (gI G, 6, .inl N_selves)), (aN_parts, .inl (gI G, 40, .inl N_parts)), (aS, .inr (2, [.ref x13, .int x14, .int x15, .int x16, .int x17, .int x18, .ref aS_may, .ref aS_ways, .ref aS_echo, .ref aS_echoes, .long x23, .long x24])), (aS_may, .inl (gJ G, 21, .inr (.inl x19))), (aS_ways, .inl (gJ G, 21, .inr (.inl x20))), (aS_echo, .inl (gJ G, 21, .inr (.inl x21))), (aS_echoes, .inl (gJ G, 21, .inr (.inl x22)))]) (stk := [.int x12]) (rest := []) (As := [.int p1, .int p2, .int p3, .int x10]) (q0 := 0) C hE hW (c_Ai_isStill l G aA aA_images aA_kept aA_refused aA_heardBy aN aN_grounds aN_airs aN_tolds aN_fees aN_lets aN_kinds aN_cells aN_selves aN_cries aN_parts aN_past aS aS_may aS_ways aS_echo aS_echoes A_draft A_reader N_width N_height N_everywhere N_firstColumn N_lastColumn N_makers N_leaves N_pasts S_land S_maker S_loud S_hour S_bought S_gone S_straight S_all N_grounds N_airs N_kinds N_cells N_selves N_parts S_may S_ways S_echo S_echoes p1 p2 p3 x10 hc25) cv_Ai_isStill tw710 hl rfl rfl (Nat.le_of_ble_eq_true rfl) rfl rfl rfl ⟨Nat.le_of_ble_eq_true rfl, Nat.le_of_ble_eq_true rfl⟩ ⟨Nat.zero_le _, Nat.zero_le _⟩ [0, 2, 3, 4, 5, 6, 7, 8, 9, 10, 11, 12, 13] [1] [1, 0, 2, 3, 4, 5, 6, 7, 8, 9, 10, 11, 12, 13] rfl rfl rfl (by decide) rfl rfl rfl rfl d_Ai_still_42 (fun H locs hW => ?_)
          refine lv_if_ne (tgt := 50) C.1.1 C.1.2.1 d_Ai_still_45 (by decide) (fun cc => ?_) (fun cc => ?_)
          · replace h := it_f cc h
            refine lv_iload C.1.1 C.1.2.1 d_Ai_still_50 (lv_at hl 0 rfl) ?_
            refine lv_istore (lv' := [(5, .int x10), (4, .int x10), (0, .ref aA), (1, .int p1), (2, .int p2), (3, .int p3)]) C.1.1 C.1.2.1 d_Ai_still_52 hl (by decide) rfl (fun ls hl => ?_)
            refine lv_iconst (v := 0) C.1.1 C.1.2.1 d_Ai_still_54 (by decide) ?_
            refine lv_istore (lv' := [(6, .int 0), (5, .int x10), (4, .int x10), (0, .ref aA), (1, .int p1), (2, .int p2), (3, .int p3)]) C.1.1 C.1.2.1 d_Ai_still_55 hl (by decide) rfl (fun ls hl => ?_)
            refine lp_at (P := fun ((x26, x27, x28, x29, x30, x31, x32, x33, x34, x35, x36, x37, x38, x39) : Int32 × Int32 × Nat × Int32 × Int32 × Int32 × Int32 × Int32 × (Nat → Int64) × (Nat → Int64) × (Nat → Int64) × (Nat → Int64) × Int64 × Int64) => ∀ (H : Heap) (locs : List Loc) (ls : Array Slot), Wd G A s.heap H locs [(aA, .inr (3, [.ref aN, .ref A_draft, .ref aA_images, .ref aA_kept, .ref aS, .ref A_reader, .ref aA_refused, .ref aA_heardBy])), (aA_refused, .inl (gI G, 3, .inl A_refused)), (aN, .inr (0, [.int N_width, .int N_height, .long N_everywhere, .long N_firstColumn, .long N_lastColumn, .ref aN_grounds, .ref aN_airs, .ref aN_tolds, .ref aN_fees, .ref aN_lets, .int N_makers, .ref aN_kinds, .ref aN_cells, .ref aN_selves, .ref aN_cries, .int N_leaves, .ref aN_parts, .int N_pasts, .ref aN_past])), (aN_grounds, .inl (gJ G, 3, .inr (.inl N_grounds))), (aN_airs, .inl (gJ G, 6, .inr (.inl N_airs))), (aN_kinds, .inl (gI G, 6, .inl N_kinds)), (aN_cells, .inl (gI G, 6, .inl N_cells)), (aN_selves, .inl (gI G, 6, .inl N_selves)), (aN_parts, .inl (gI G, 40, .inl N_parts)), (aS, .inr (2, [.ref x28, .int x29, .int x30, .int x31, .int x32, .int x33, .ref aS_may, .ref aS_ways, .ref aS_echo, .ref aS_echoes, .long x38, .long x39])), (aS_may, .inl (gJ G, 21, .inr (.inl x34))), (aS_ways, .inl (gJ G, 21, .inr (.inl x35))), (aS_echo, .inl (gJ G, 21, .inr (.inl x36))), (aS_echoes, .inl (gJ G, 21, .inr (.inl x37)))] → lv_has ls 8 [(0, .ref aA), (1, .int p1), (2, .int p2), (3, .int p3), (4, .int x10), (5, .int x26), (6, .int x27)] → W p l e (RM 6 154) s m args below meth c H locs 0 0 Q (F0 m 57 ls [])) ?_ FU _ h _ _ _ hW (lv_sub hl [3, 4, 5, 6, 2, 1, 0] rfl)
            clear h hl hW
            intro rec57 ih57
            intro x h
            obtain ⟨x26, x27, x28, x29, x30, x31, x32, x33, x34, x35, x36, x37, x38, x39⟩ := x
            unfold f_Ai_still_L57 at h
            intro H locs ls hW hl
            refine lv_iload C.1.1 C.1.2.1 d_Ai_still_57 (lv_at hl 6 rfl) ?_
            refine lv_iload C.1.1 C.1.2.1 d_Ai_still_59 (lv_at hl 4 rfl) ?_
            refine lv_icmp_ge (tgt := 121) C.1.1 C.1.2.1 d_Ai_still_61 (by decide) (fun cc => ?_) (fun cc => ?_)
            · replace h := it_t cc h
              refine lv_iload C.1.1 C.1.2.1 d_Ai_still_121 (lv_at hl 5 rfl) ?_
              obtain rfl := Option.some.inj h
              exact x_iret C hW rfl rfl hQ d_Ai_still_123
            · replace h := it_f cc h
              refine lv_iload C.1.1 C.1.2.1 d_Ai_still_64 (lv_at hl 6 rfl) ?_
              refine lv_iload C.1.1 C.1.2.1 d_Ai_still_66 (lv_at hl 4 rfl) ?_
              refine lv_iconst (v := (-1)) C.1.1 C.1.2.1 d_Ai_still_68 (by decide) ?_
              refine lv_ixor C.1.1 C.1.2.1 d_Ai_still_69 ?_
              refine lv_iand C.1.1 C.1.2.1 d_Ai_still_70 ?_
              refine jn_at (P := fun (x40 : Int32) => ∀ (H : Heap) (locs : List Loc) (ls : Array Slot), Wd G A s.heap H locs [(aA, .inr (3, [.ref aN, .ref A_draft, .ref aA_images, .ref aA_kept, .ref aS, .ref A_reader, .ref aA_refused, .ref aA_heardBy])), (aA_refused, .inl (gI G, 3, .inl A_refused)), (aN, .inr (0, [.int N_width, .int N_height, .long N_everywhere, .long N_firstColumn, .long N_lastColumn, .ref aN_grounds, .ref aN_airs, .ref aN_tolds, .ref aN_fees, .ref aN_lets, .int N_makers, .ref aN_kinds, .ref aN_cells, .ref aN_selves, .ref aN_cries, .int N_leaves, .ref aN_parts, .int N_pasts, .ref aN_past])), (aN_grounds, .inl (gJ G, 3, .inr (.inl N_grounds))), (aN_airs, .inl (gJ G, 6, .inr (.inl N_airs))), (aN_kinds, .inl (gI G, 6, .inl N_kinds)), (aN_cells, .inl (gI G, 6, .inl N_cells)), (aN_selves, .inl (gI G, 6, .inl N_selves)), (aN_parts, .inl (gI G, 40, .inl N_parts)), (aS, .inr (2, [.ref x28, .int x29, .int x30, .int x31, .int x32, .int x33, .ref aS_may, .ref aS_ways, .ref aS_echo, .ref aS_echoes, .long x38, .long x39])), (aS_may, .inl (gJ G, 21, .inr (.inl x34))), (aS_ways, .inl (gJ G, 21, .inr (.inl x35))), (aS_echo, .inl (gJ G, 21, .inr (.inl x36))), (aS_echoes, .inl (gJ G, 21, .inr (.inl x37)))] → lv_has ls 8 [(0, .ref aA), (1, .int p1), (2, .int p2), (3, .int p3), (4, .int x10), (5, .int x26), (6, .int x27)] → W p l e (RM 6 154) s m args below meth c H locs 0 0 Q (F0 m 92 ls [.int x40])) h ?_ ?_
              · skip
                intro x40 h
                intro H locs ls hW hl
                refine lv_istore (lv' := [(7, .int x40), (0, .ref aA), (1, .int p1), (2, .int p2), (3, .int p3), (4, .int x10), (5, .int x26), (6, .int x27)]) C.1.1 C.1.2.1 d_Ai_still_92 hl (by decide) rfl (fun ls hl => ?_)
                refine lv_iload C.1.1 C.1.2.1 d_Ai_still_94 (lv_at hl 0 rfl) ?_
                refine jn_at (P := fun ((x41, x42, x43, x44, x45, x46, x47, x48, x49, x50, x51, x52, x53) : Int32 × Nat × Int32 × Int32 × Int32 × Int32 × Int32 × (Nat → Int64) × (Nat → Int64) × (Nat → Int64) × (Nat → Int64) × Int64 × Int64) => ∀ (H : Heap) (locs : List Loc) (ls : Array Slot), Wd G A s.heap H locs [(aA, .inr (3, [.ref aN, .ref A_draft, .ref aA_images, .ref aA_kept, .ref aS, .ref A_reader, .ref aA_refused, .ref aA_heardBy])), (aA_refused, .inl (gI G, 3, .inl A_refused)), (aN, .inr (0, [.int N_width, .int N_height, .long N_everywhere, .long N_firstColumn, .long N_lastColumn, .ref aN_grounds, .ref aN_airs, .ref aN_tolds, .ref aN_fees, .ref aN_lets, .int N_makers, .ref aN_kinds, .ref aN_cells, .ref aN_selves, .ref aN_cries, .int N_leaves, .ref aN_parts, .int N_pasts, .ref aN_past])), (aN_grounds, .inl (gJ G, 3, .inr (.inl N_grounds))), (aN_airs, .inl (gJ G, 6, .inr (.inl N_airs))), (aN_kinds, .inl (gI G, 6, .inl N_kinds)), (aN_cells, .inl (gI G, 6, .inl N_cells)), (aN_selves, .inl (gI G, 6, .inl N_selves)), (aN_parts, .inl (gI G, 40, .inl N_parts)), (aS, .inr (2, [.ref x42, .int x43, .int x44, .int x45, .int x46, .int x47, .ref aS_may, .ref aS_ways, .ref aS_echo, .ref aS_echoes, .long x52, .long x53])), (aS_may, .inl (gJ G, 21, .inr (.inl x48))), (aS_ways, .inl (gJ G, 21, .inr (.inl x49))), (aS_echo, .inl (gJ G, 21, .inr (.inl x50))), (aS_echoes, .inl (gJ G, 21, .inr (.inl x51)))] → lv_has ls 8 [(0, .ref aA), (1, .int p1), (2, .int p2), (3, .int p3), (4, .int x10), (5, .int x41), (6, .int x27)] → W p l e (RM 6 154) s m args below meth c H locs 0 0 Q (F0 m 115 ls [])) h ?_ ?_
                · skip
                  intro x h
                  obtain ⟨x41, x42, x43, x44, x45, x46, x47, x48, x49, x50, x51, x52, x53⟩ := x
                  intro H locs ls hW hl
                  obtain ⟨x54, ex54⟩ : ∃ y : Int32, y = x27 + 1 := ⟨_, rfl⟩
                  replace h := lt_at ex54 h
                  refine lv_iinc (v := x54) (lv' := [(6, .int x54), (0, .ref aA), (1, .int p1), (2, .int p2), (3, .int p3), (4, .int x10), (5, .int x41)]) C.1.1 C.1.2.1 d_Ai_still_115 hl (k := 6) rfl (by rw [ex54]; rfl) (by decide) rfl (fun ls hl => ?_)
                  refine lv_goto (tgt := 57) C.1.1 C.1.2.1 d_Ai_still_118 (by decide) ?_
                  exact ih57 _ h _ _ _ hW (lv_sub hl [1, 2, 3, 4, 5, 6, 0] rfl)
                · intro J115 hJ115 h
                  refine lv_if_eq (tgt := 115) C.1.1 C.1.2.1 d_Ai_still_96 (by decide) (fun cc => ?_) (fun cc => ?_)
                  · replace h := it_t cc h
                    exact hJ115 _ h _ _ _ hW (lv_sub hl [1, 2, 3, 4, 5, 6, 7] rfl)
                  · replace h := it_f cc h
                    refine lv_aload_n C.1.1 C.1.2.1 d_Ai_still_99 rfl (lv_at hl 1 rfl) ?_
                    refine lv_iload_n C.1.1 C.1.2.1 d_Ai_still_100 rfl (lv_at hl 2 rfl) ?_
                    refine lv_iload_n C.1.1 C.1.2.1 d_Ai_still_101 rfl (lv_at hl 3 rfl) ?_
                    refine lv_iload_n C.1.1 C.1.2.1 d_Ai_still_102 rfl (lv_at hl 4 rfl) ?_
                    refine lv_iload C.1.1 C.1.2.1 d_Ai_still_103 (lv_at hl 7 rfl) ?_
                    obtain ⟨⟨x55, x56, x57, x58, x59, x60, x61, x62, x63, x64, x65, x66, x67⟩, hc68, h⟩ := bd_at h
                    refine x_callV (ws' := [(aA, .inr (3, [.ref aN, .ref A_draft, .ref aA_images, .ref aA_kept, .ref aS, .ref A_reader, .ref aA_refused, .ref aA_heardBy])), (aA_refused, .inl (gI G, 3, .inl A_refused)), (aN, .inr (0, [.int N_width, .int N_height, .long N_everywhere, .long N_firstColumn, .long N_lastColumn, .ref aN_grounds, .ref aN_airs, .ref aN_tolds, .ref aN_fees, .ref aN_lets, .int N_makers, .ref aN_kinds, .ref aN_cells, .ref aN_selves, .ref aN_cries, .int N_leaves, .ref aN_parts, .int N_pasts, .ref aN_past])), (aN_grounds, .inl (gJ G, 3, .inr (.inl N_grounds))), (aN_airs, .inl (gJ G, 6, .inr (.inl N_airs))), (aN_kinds, .inl (gI G, 6, .inl N_kinds)), (aN_cells, .inl (gI G, 6, .inl N_cells)), (aN_selves, .inl (gI G, 6, .inl N_selves)), (aN_parts, .inl (gI G, 40, .inl N_parts)), (aS, .inr (2, [.ref x56, .int x57, .int x58, .int x59, .int x60, .int x61, .ref aS_may, .ref aS_ways, .ref aS_echo, .ref aS_echoes, .long x66, .long x67])), (aS_may, .inl (gJ G, 21, .inr (.inl x62))), (aS_ways, .inl (gJ G, 21, .inr (.inl x63))), (aS_echo, .inl (gJ G, 21, .inr (.inl x64))), (aS_echoes, .inl (gJ G, 21, .inr (.inl x65)))]) (stk := [.int x55]) (rest := []) (As := [.int p1, .int p2, .int p3, .int x27]) (q0 := 0) C hE hW (c_Ai_isStill l G aA aA_images aA_kept aA_refused aA_heardBy aN aN_grounds aN_airs aN_tolds aN_fees aN_lets aN_kinds aN_cells aN_selves aN_cries aN_parts aN_past aS aS_may aS_ways aS_echo aS_echoes A_draft A_reader N_width N_height N_everywhere N_firstColumn N_lastColumn N_makers N_leaves N_pasts x28 x29 x30 x31 x32 x33 x38 x39 N_grounds N_airs N_kinds N_cells N_selves N_parts x34 x35 x36 x37 p1 p2 p3 x27 hc68) cv_Ai_isStill tw710 hl rfl rfl (Nat.le_of_ble_eq_true rfl) rfl rfl rfl ⟨Nat.le_of_ble_eq_true rfl, Nat.le_of_ble_eq_true rfl⟩ ⟨Nat.zero_le _, Nat.zero_le _⟩ [0, 2, 3, 4, 5, 6, 7, 8, 9, 10, 11, 12, 13] [1] [1, 0, 2, 3, 4, 5, 6, 7, 8, 9, 10, 11, 12, 13] rfl rfl rfl (by decide) rfl rfl rfl rfl d_Ai_still_105 (fun H locs hW => ?_)
                    refine lv_if_eq (tgt := 115) C.1.1 C.1.2.1 d_Ai_still_108 (by decide) (fun cc => ?_) (fun cc => ?_)
                    · replace h := it_t cc h
                      exact hJ115 _ h _ _ _ hW (lv_sub hl [1, 2, 3, 4, 5, 6, 7] rfl)
                    · replace h := it_f cc h
                      refine lv_iload C.1.1 C.1.2.1 d_Ai_still_111 (lv_at hl 7 rfl) ?_
                      refine lv_istore (lv' := [(5, .int x27), (7, .int x40), (0, .ref aA), (1, .int p1), (2, .int p2), (3, .int p3), (4, .int x10), (6, .int x27)]) C.1.1 C.1.2.1 d_Ai_still_113 hl (by decide) rfl (fun ls hl => ?_)
                      exact hJ115 _ h _ _ _ hW (lv_sub hl [2, 3, 4, 5, 6, 0, 7] rfl)
              · intro J92 hJ92 h
                refine jn_at (P := fun (_ : Unit) => ∀ (H : Heap) (locs : List Loc) (ls : Array Slot), Wd G A s.heap H locs [(aA, .inr (3, [.ref aN, .ref A_draft, .ref aA_images, .ref aA_kept, .ref aS, .ref A_reader, .ref aA_refused, .ref aA_heardBy])), (aA_refused, .inl (gI G, 3, .inl A_refused)), (aN, .inr (0, [.int N_width, .int N_height, .long N_everywhere, .long N_firstColumn, .long N_lastColumn, .ref aN_grounds, .ref aN_airs, .ref aN_tolds, .ref aN_fees, .ref aN_lets, .int N_makers, .ref aN_kinds, .ref aN_cells, .ref aN_selves, .ref aN_cries, .int N_leaves, .ref aN_parts, .int N_pasts, .ref aN_past])), (aN_grounds, .inl (gJ G, 3, .inr (.inl N_grounds))), (aN_airs, .inl (gJ G, 6, .inr (.inl N_airs))), (aN_kinds, .inl (gI G, 6, .inl N_kinds)), (aN_cells, .inl (gI G, 6, .inl N_cells)), (aN_selves, .inl (gI G, 6, .inl N_selves)), (aN_parts, .inl (gI G, 40, .inl N_parts)), (aS, .inr (2, [.ref x28, .int x29, .int x30, .int x31, .int x32, .int x33, .ref aS_may, .ref aS_ways, .ref aS_echo, .ref aS_echoes, .long x38, .long x39])), (aS_may, .inl (gJ G, 21, .inr (.inl x34))), (aS_ways, .inl (gJ G, 21, .inr (.inl x35))), (aS_echo, .inl (gJ G, 21, .inr (.inl x36))), (aS_echoes, .inl (gJ G, 21, .inr (.inl x37)))] → lv_has ls 8 [(0, .ref aA), (1, .int p1), (2, .int p2), (3, .int p3), (4, .int x10), (5, .int x26), (6, .int x27)] → W p l e (RM 6 154) s m args below meth c H locs 0 0 Q (F0 m 91 ls [])) h ?_ ?_
                · skip
                  intro _ h
                  intro H locs ls hW hl
                  refine lv_iconst (v := 0) C.1.1 C.1.2.1 d_Ai_still_91 (by decide) ?_
                  exact hJ92 _ h _ _ _ hW (lv_sub hl [0, 1, 2, 3, 4, 5, 6] rfl)
                · intro J91 hJ91 h
                  refine lv_if_ne (tgt := 91) C.1.1 C.1.2.1 d_Ai_still_71 (by decide) (fun cc => ?_) (fun cc => ?_)
                  · replace h := it_f cc h
                    exact hJ91 _ h _ _ _ hW (lv_sub hl [0, 1, 2, 3, 4, 5, 6] rfl)
                  · replace h := it_t cc h
                    refine lv_iload C.1.1 C.1.2.1 d_Ai_still_74 (lv_at hl 6 rfl) ?_
                    obtain ⟨x69, hc70, h⟩ := bd_at h
                    refine x_callS (ws' := [(aA, .inr (3, [.ref aN, .ref A_draft, .ref aA_images, .ref aA_kept, .ref aS, .ref A_reader, .ref aA_refused, .ref aA_heardBy])), (aA_refused, .inl (gI G, 3, .inl A_refused)), (aN, .inr (0, [.int N_width, .int N_height, .long N_everywhere, .long N_firstColumn, .long N_lastColumn, .ref aN_grounds, .ref aN_airs, .ref aN_tolds, .ref aN_fees, .ref aN_lets, .int N_makers, .ref aN_kinds, .ref aN_cells, .ref aN_selves, .ref aN_cries, .int N_leaves, .ref aN_parts, .int N_pasts, .ref aN_past])), (aN_grounds, .inl (gJ G, 3, .inr (.inl N_grounds))), (aN_airs, .inl (gJ G, 6, .inr (.inl N_airs))), (aN_kinds, .inl (gI G, 6, .inl N_kinds)), (aN_cells, .inl (gI G, 6, .inl N_cells)), (aN_selves, .inl (gI G, 6, .inl N_selves)), (aN_parts, .inl (gI G, 40, .inl N_parts)), (aS, .inr (2, [.ref x28, .int x29, .int x30, .int x31, .int x32, .int x33, .ref aS_may, .ref aS_ways, .ref aS_echo, .ref aS_echoes, .long x38, .long x39])), (aS_may, .inl (gJ G, 21, .inr (.inl x34))), (aS_ways, .inl (gJ G, 21, .inr (.inl x35))), (aS_echo, .inl (gJ G, 21, .inr (.inl x36))), (aS_echoes, .inl (gJ G, 21, .inr (.inl x37)))]) (stk := [.int x69]) (rest := []) (As := [.int x27]) C hE hW (c_JI_bitCount l G x27 hc70) cv_JI_bitCount tw714 hl rfl rfl (Nat.le_of_ble_eq_true rfl) ⟨Nat.le_of_ble_eq_true rfl, Nat.le_of_ble_eq_true rfl⟩ ⟨Nat.zero_le _, Nat.zero_le _⟩ [] [0, 1, 2, 3, 4, 5, 6, 7, 8, 9, 10, 11, 12, 13] [0, 1, 2, 3, 4, 5, 6, 7, 8, 9, 10, 11, 12, 13] rfl rfl rfl (by decide) rfl rfl rfl rfl d_Ai_still_76 (fun H locs hW => ?_)
                    refine lv_iload C.1.1 C.1.2.1 d_Ai_still_79 (lv_at hl 5 rfl) ?_
                    obtain ⟨x71, hc72, h⟩ := bd_at h
                    refine x_callS (ws' := [(aA, .inr (3, [.ref aN, .ref A_draft, .ref aA_images, .ref aA_kept, .ref aS, .ref A_reader, .ref aA_refused, .ref aA_heardBy])), (aA_refused, .inl (gI G, 3, .inl A_refused)), (aN, .inr (0, [.int N_width, .int N_height, .long N_everywhere, .long N_firstColumn, .long N_lastColumn, .ref aN_grounds, .ref aN_airs, .ref aN_tolds, .ref aN_fees, .ref aN_lets, .int N_makers, .ref aN_kinds, .ref aN_cells, .ref aN_selves, .ref aN_cries, .int N_leaves, .ref aN_parts, .int N_pasts, .ref aN_past])), (aN_grounds, .inl (gJ G, 3, .inr (.inl N_grounds))), (aN_airs, .inl (gJ G, 6, .inr (.inl N_airs))), (aN_kinds, .inl (gI G, 6, .inl N_kinds)), (aN_cells, .inl (gI G, 6, .inl N_cells)), (aN_selves, .inl (gI G, 6, .inl N_selves)), (aN_parts, .inl (gI G, 40, .inl N_parts)), (aS, .inr (2, [.ref x28, .int x29, .int x30, .int x31, .int x32, .int x33, .ref aS_may, .ref aS_ways, .ref aS_echo, .ref aS_echoes, .long x38, .long x39])), (aS_may, .inl (gJ G, 21, .inr (.inl x34))), (aS_ways, .inl (gJ G, 21, .inr (.inl x35))), (aS_echo, .inl (gJ G, 21, .inr (.inl x36))), (aS_echoes, .inl (gJ G, 21, .inr (.inl x37)))]) (stk := [.int x71, .int x69]) (rest := [.int x69]) (As := [.int x26]) C hE hW (c_JI_bitCount l G x26 hc72) cv_JI_bitCount tw714 hl rfl rfl (Nat.le_of_ble_eq_true rfl) ⟨Nat.le_of_ble_eq_true rfl, Nat.le_of_ble_eq_true rfl⟩ ⟨Nat.zero_le _, Nat.zero_le _⟩ [] [0, 1, 2, 3, 4, 5, 6, 7, 8, 9, 10, 11, 12, 13] [0, 1, 2, 3, 4, 5, 6, 7, 8, 9, 10, 11, 12, 13] rfl rfl rfl (by decide) rfl rfl rfl rfl d_Ai_still_81 (fun H locs hW => ?_)
                    refine lv_icmp_ge (tgt := 91) C.1.1 C.1.2.1 d_Ai_still_84 (by decide) (fun cc => ?_) (fun cc => ?_)
                    · replace h := it_t cc h
                      exact hJ91 _ h _ _ _ hW (lv_sub hl [0, 1, 2, 3, 4, 5, 6] rfl)
                    · replace h := it_f cc h
                      refine lv_iconst (v := 1) C.1.1 C.1.2.1 d_Ai_still_87 (by decide) ?_
                      refine lv_goto (tgt := 92) C.1.1 C.1.2.1 d_Ai_still_88 (by decide) ?_
                      exact hJ92 _ h _ _ _ hW (lv_sub hl [0, 1, 2, 3, 4, 5, 6] rfl)
          · replace h := it_t cc h
            refine lv_iconst (v := (-1)) C.1.1 C.1.2.1 d_Ai_still_48 (by decide) ?_
            obtain rfl := Option.some.inj h
            exact x_iret C hW rfl rfl hQ d_Ai_still_49
        · replace h := it_t cc h
          exact hJ22 _ h _ _ _ hW (lv_sub hl [0] rfl)
set_option maxHeartbeats 4000000 in
set_option maxRecDepth 100000 in
theorem c_Ai_cry (l : Launch) (G : Gl) (aA : Nat) (aA_images : Nat) (aA_kept : Nat) (aA_refused : Nat) (aA_heardBy : Nat) (aN : Nat) (aN_grounds : Nat) (aN_airs : Nat) (aN_tolds : Nat) (aN_fees : Nat) (aN_lets : Nat) (aN_kinds : Nat) (aN_cells : Nat) (aN_selves : Nat) (aN_cries : Nat) (aN_parts : Nat) (aN_past : Nat) (A_draft : Nat) (A_sound : Nat) (A_reader : Nat) (N_width : Int32) (N_height : Int32) (N_everywhere : Int64) (N_firstColumn : Int64) (N_lastColumn : Int64) (N_makers : Int32) (N_leaves : Int32) (N_pasts : Int32) (A_refused : Nat → Int32) (N_cries : Nat → Int32) (p1 : Int32) (p2 : Int32) {res : Int32 × (Nat → Int32) × (Nat → Int32)} (h : f_Ai_cry N_makers A_refused N_cries p1 p2 = some res) : Ct l y_Ai_cry b_Ai_cry 4 (some .int) 2 44 G [.ref aA, .int p1, .int p2] [(aA, .inr (3, [.ref aN, .ref A_draft, .ref aA_images, .ref aA_kept, .ref A_sound, .ref A_reader, .ref aA_refused, .ref aA_heardBy])), (aA_refused, .inl (gI G, 3, .inl A_refused)), (aN, .inr (0, [.int N_width, .int N_height, .long N_everywhere, .long N_firstColumn, .long N_lastColumn, .ref aN_grounds, .ref aN_airs, .ref aN_tolds, .ref aN_fees, .ref aN_lets, .int N_makers, .ref aN_kinds, .ref aN_cells, .ref aN_selves, .ref aN_cries, .int N_leaves, .ref aN_parts, .int N_pasts, .ref aN_past])), (aN_cries, .inl (gI G, 6, .inl N_cries))] (some (.int res.1)) [(aA, .inr (3, [.ref aN, .ref A_draft, .ref aA_images, .ref aA_kept, .ref A_sound, .ref A_reader, .ref aA_refused, .ref aA_heardBy])), (aA_refused, .inl (gI G, 3, .inl (res.2.1))), (aN, .inr (0, [.int N_width, .int N_height, .long N_everywhere, .long N_firstColumn, .long N_lastColumn, .ref aN_grounds, .ref aN_airs, .ref aN_tolds, .ref aN_fees, .ref aN_lets, .int N_makers, .ref aN_kinds, .ref aN_cells, .ref aN_selves, .ref aN_cries, .int N_leaves, .ref aN_parts, .int N_pasts, .ref aN_past])), (aN_cries, .inl (gI G, 6, .inl (res.2.2)))] := by
  refine Ct.mk (by decide) (Nat.le_of_ble_eq_true rfl) ?_
  intro p e s m args below meth c ls A Q C hE hW hl hQ
  have C : Cx p s args m c meth "LentAir" y_Ai_cry b_Ai_cry 4 (some .int) := C
  have hl : lv_has ls 4 [(0, .ref aA), (1, .int p1), (2, .int p2)] := hl
  unfold f_Ai_cry at h
  refine lv_aload_n C.1.1 C.1.2.1 d_Ai_cry_0 rfl (lv_at hl 0 rfl) ?_
  refine lv_iload_n C.1.1 C.1.2.1 d_Ai_cry_1 rfl (lv_at hl 1 rfl) ?_
  obtain ⟨x1, hc2, h⟩ := bd_at h
  refine x_callV (ws' := [(aA, .inr (3, [.ref aN, .ref A_draft, .ref aA_images, .ref aA_kept, .ref A_sound, .ref A_reader, .ref aA_refused, .ref aA_heardBy])), (aA_refused, .inl (gI G, 3, .inl A_refused)), (aN, .inr (0, [.int N_width, .int N_height, .long N_everywhere, .long N_firstColumn, .long N_lastColumn, .ref aN_grounds, .ref aN_airs, .ref aN_tolds, .ref aN_fees, .ref aN_lets, .int N_makers, .ref aN_kinds, .ref aN_cells, .ref aN_selves, .ref aN_cries, .int N_leaves, .ref aN_parts, .int N_pasts, .ref aN_past])), (aN_cries, .inl (gI G, 6, .inl N_cries))]) (stk := [.int x1]) (rest := []) (As := [.int p1]) (q0 := 0) C hE hW (c_Ai_isMaker l G aA aA_images aA_kept aA_refused aA_heardBy aN aN_grounds aN_airs aN_tolds aN_fees aN_lets aN_kinds aN_cells aN_selves aN_cries aN_parts aN_past A_draft A_sound A_reader N_width N_height N_everywhere N_firstColumn N_lastColumn N_makers N_leaves N_pasts p1 hc2) cv_Ai_isMaker tw358 hl rfl rfl (Nat.le_of_ble_eq_true rfl) rfl rfl rfl ⟨Nat.le_of_ble_eq_true rfl, Nat.le_of_ble_eq_true rfl⟩ ⟨Nat.zero_le _, Nat.zero_le _⟩ [0, 2] [1, 3] [2, 0, 3, 1] rfl rfl rfl (by decide) rfl rfl rfl rfl d_Ai_cry_2 (fun H locs hW => ?_)
  refine jn_at (P := fun (_ : Unit) => ∀ (H : Heap) (locs : List Loc) (ls : Array Slot), Wd G A s.heap H locs [(aA, .inr (3, [.ref aN, .ref A_draft, .ref aA_images, .ref aA_kept, .ref A_sound, .ref A_reader, .ref aA_refused, .ref aA_heardBy])), (aA_refused, .inl (gI G, 3, .inl A_refused)), (aN, .inr (0, [.int N_width, .int N_height, .long N_everywhere, .long N_firstColumn, .long N_lastColumn, .ref aN_grounds, .ref aN_airs, .ref aN_tolds, .ref aN_fees, .ref aN_lets, .int N_makers, .ref aN_kinds, .ref aN_cells, .ref aN_selves, .ref aN_cries, .int N_leaves, .ref aN_parts, .int N_pasts, .ref aN_past])), (aN_cries, .inl (gI G, 6, .inl N_cries))] → lv_has ls 4 [(0, .ref aA)] → W p l e (RM 2 44) s m args below meth c H locs 0 0 Q (F0 m 18 ls [])) h ?_ ?_
  · skip
    intro _ h
    intro H locs ls hW hl
    refine lv_aload_n C.1.1 C.1.2.1 d_Ai_cry_18 rfl (lv_at hl 0 rfl) ?_
    refine lv_bipush (v := (-2)) C.1.1 C.1.2.1 d_Ai_cry_19 (by decide) ?_
    obtain ⟨⟨x3, x4⟩, hc5, h⟩ := bd_at h
    refine x_callV (ws' := [(aA, .inr (3, [.ref aN, .ref A_draft, .ref aA_images, .ref aA_kept, .ref A_sound, .ref A_reader, .ref aA_refused, .ref aA_heardBy])), (aA_refused, .inl (gI G, 3, .inl x4)), (aN, .inr (0, [.int N_width, .int N_height, .long N_everywhere, .long N_firstColumn, .long N_lastColumn, .ref aN_grounds, .ref aN_airs, .ref aN_tolds, .ref aN_fees, .ref aN_lets, .int N_makers, .ref aN_kinds, .ref aN_cells, .ref aN_selves, .ref aN_cries, .int N_leaves, .ref aN_parts, .int N_pasts, .ref aN_past])), (aN_cries, .inl (gI G, 6, .inl N_cries))]) (stk := [.int x3]) (rest := []) (As := [.int (-2)]) (q0 := 0) C hE hW (c_Ai_refuse l G aA aA_images aA_kept aA_refused aA_heardBy aN A_draft A_sound A_reader A_refused (-2) hc5) cv_Ai_refuse tw308 hl rfl rfl (Nat.le_of_ble_eq_true rfl) rfl rfl rfl ⟨Nat.le_of_ble_eq_true rfl, Nat.le_of_ble_eq_true rfl⟩ ⟨Nat.zero_le _, Nat.zero_le _⟩ [0, 1] [2, 3] [2, 3, 0, 1] rfl rfl rfl (by decide) rfl rfl rfl rfl d_Ai_cry_21 (fun H locs hW => ?_)
    obtain rfl := Option.some.inj h
    exact x_iret C hW rfl rfl hQ d_Ai_cry_24
  · intro J18 hJ18 h
    refine lv_if_eq (tgt := 18) C.1.1 C.1.2.1 d_Ai_cry_5 (by decide) (fun cc => ?_) (fun cc => ?_)
    · replace h := it_t cc h
      exact hJ18 _ h _ _ _ hW (lv_sub hl [0] rfl)
    · replace h := it_f cc h
      refine lv_iload_n C.1.1 C.1.2.1 d_Ai_cry_8 rfl (lv_at hl 2 rfl) ?_
      refine lv_if_lt (tgt := 18) C.1.1 C.1.2.1 d_Ai_cry_9 (by decide) (fun cc => ?_) (fun cc => ?_)
      · replace h := it_t cc h
        exact hJ18 _ h _ _ _ hW (lv_sub hl [0] rfl)
      · replace h := it_f cc h
        refine lv_iload_n C.1.1 C.1.2.1 d_Ai_cry_12 rfl (lv_at hl 2 rfl) ?_
        refine lv_bipush (v := 20) C.1.1 C.1.2.1 d_Ai_cry_13 (by decide) ?_
        refine lv_icmp_le (tgt := 25) C.1.1 C.1.2.1 d_Ai_cry_15 (by decide) (fun cc => ?_) (fun cc => ?_)
        · replace h := it_t cc h
          refine lv_aload_n C.1.1 C.1.2.1 d_Ai_cry_25 rfl (lv_at hl 0 rfl) ?_
          refine x_get C hE hW fl_Ai_12 0 rfl rfl d_Ai_cry_26 ?_
          refine x_get C hE hW fl_Ai_207 2 rfl rfl d_Ai_cry_29 ?_
          refine lv_iload_n C.1.1 C.1.2.1 d_Ai_cry_32 rfl (lv_at hl 1 rfl) ?_
          obtain ⟨hg, h⟩ := gd_at h
          refine x_iald C hE hW 3 rfl (inB_in hg) d_Ai_cry_33 ?_
          refine lv_topi (fun x6 ex6 => ?_)
          replace h := lt_at ex6 h
          refine lv_istore_n (lv' := [(3, .int x6), (0, .ref aA), (1, .int p1), (2, .int p2)]) C.1.1 C.1.2.1 d_Ai_cry_34 rfl hl (by decide) rfl (fun ls hl => ?_)
          refine lv_aload_n C.1.1 C.1.2.1 d_Ai_cry_35 rfl (lv_at hl 1 rfl) ?_
          refine x_get C hE hW fl_Ai_12 0 rfl rfl d_Ai_cry_36 ?_
          refine x_get C hE hW fl_Ai_207 2 rfl rfl d_Ai_cry_39 ?_
          refine lv_iload_n C.1.1 C.1.2.1 d_Ai_cry_42 rfl (lv_at hl 2 rfl) ?_
          refine lv_iload_n C.1.1 C.1.2.1 d_Ai_cry_43 rfl (lv_at hl 3 rfl) ?_
          obtain ⟨hg, h⟩ := gd_at h
          obtain ⟨x7, ex7⟩ : ∃ y : Nat → Int32, y = upd N_cries p1.toNatClampNeg p2 := ⟨_, rfl⟩
          replace h := lt_at ex7 h
          refine x_iast (ws' := [(aA, .inr (3, [.ref aN, .ref A_draft, .ref aA_images, .ref aA_kept, .ref A_sound, .ref A_reader, .ref aA_refused, .ref aA_heardBy])), (aA_refused, .inl (gI G, 3, .inl A_refused)), (aN, .inr (0, [.int N_width, .int N_height, .long N_everywhere, .long N_firstColumn, .long N_lastColumn, .ref aN_grounds, .ref aN_airs, .ref aN_tolds, .ref aN_fees, .ref aN_lets, .int N_makers, .ref aN_kinds, .ref aN_cells, .ref aN_selves, .ref aN_cries, .int N_leaves, .ref aN_parts, .int N_pasts, .ref aN_past])), (aN_cries, .inl (gI G, 6, .inl x7))]) C hE hW 3 rfl (inB_in hg) (by subst ex7; rfl) d_Ai_cry_44 (fun H locs hW => ?_)
          refine lv_iload_n C.1.1 C.1.2.1 d_Ai_cry_45 rfl (lv_at hl 0 rfl) ?_
          obtain rfl := Option.some.inj h
          exact x_iret C hW rfl rfl hQ d_Ai_cry_46
        · replace h := it_f cc h
          exact hJ18 _ h _ _ _ hW (lv_sub hl [0] rfl)
set_option maxHeartbeats 4000000 in
set_option maxRecDepth 100000 in
theorem c_Ai_listen (l : Launch) (G : Gl) (aA : Nat) (aA_images : Nat) (aA_kept : Nat) (aA_refused : Nat) (aA_heardBy : Nat) (aN : Nat) (aN_grounds : Nat) (aN_airs : Nat) (aN_tolds : Nat) (aN_fees : Nat) (aN_lets : Nat) (aN_kinds : Nat) (aN_cells : Nat) (aN_selves : Nat) (aN_cries : Nat) (aN_parts : Nat) (aN_past : Nat) (aS : Nat) (aS_may : Nat) (aS_ways : Nat) (aS_echo : Nat) (aS_echoes : Nat) (A_draft : Nat) (A_reader : Nat) (N_width : Int32) (N_height : Int32) (N_everywhere : Int64) (N_firstColumn : Int64) (N_lastColumn : Int64) (N_makers : Int32) (N_leaves : Int32) (N_pasts : Int32) (S_land : Nat) (S_maker : Int32) (S_loud : Int32) (S_hour : Int32) (S_bought : Int32) (S_gone : Int32) (S_straight : Int64) (S_all : Int64) (A_heardBy : Nat → Int32) (N_grounds : Nat → Int64) (N_airs : Nat → Int64) (N_kinds : Nat → Int32) (N_cells : Nat → Int32) (N_selves : Nat → Int32) (N_cries : Nat → Int32) (N_parts : Nat → Int32) (S_may : Nat → Int64) (S_ways : Nat → Int64) (S_echo : Nat → Int64) (S_echoes : Nat → Int64) (p1 : Int32) {res : (Nat → Int32) × Nat × Int32 × Int32 × Int32 × Int32 × Int32 × (Nat → Int64) × (Nat → Int64) × (Nat → Int64) × (Nat → Int64) × Int64 × Int64} (h : f_Ai_listen aN N_width N_everywhere N_firstColumn N_lastColumn N_makers N_leaves S_land S_maker S_loud S_hour S_bought S_gone S_straight S_all A_heardBy N_grounds N_airs N_kinds N_cells N_selves N_cries N_parts S_may S_ways S_echo S_echoes p1 = some res) : Ct l y_Ai_listen b_Ai_listen 4 none 5 129 G [.ref aA, .int p1] [(aA, .inr (3, [.ref aN, .ref A_draft, .ref aA_images, .ref aA_kept, .ref aS, .ref A_reader, .ref aA_refused, .ref aA_heardBy])), (aA_heardBy, .inl (gI G, 6, .inl A_heardBy)), (aN, .inr (0, [.int N_width, .int N_height, .long N_everywhere, .long N_firstColumn, .long N_lastColumn, .ref aN_grounds, .ref aN_airs, .ref aN_tolds, .ref aN_fees, .ref aN_lets, .int N_makers, .ref aN_kinds, .ref aN_cells, .ref aN_selves, .ref aN_cries, .int N_leaves, .ref aN_parts, .int N_pasts, .ref aN_past])), (aN_grounds, .inl (gJ G, 3, .inr (.inl N_grounds))), (aN_airs, .inl (gJ G, 6, .inr (.inl N_airs))), (aN_kinds, .inl (gI G, 6, .inl N_kinds)), (aN_cells, .inl (gI G, 6, .inl N_cells)), (aN_selves, .inl (gI G, 6, .inl N_selves)), (aN_cries, .inl (gI G, 6, .inl N_cries)), (aN_parts, .inl (gI G, 40, .inl N_parts)), (aS, .inr (2, [.ref S_land, .int S_maker, .int S_loud, .int S_hour, .int S_bought, .int S_gone, .ref aS_may, .ref aS_ways, .ref aS_echo, .ref aS_echoes, .long S_straight, .long S_all])), (aS_may, .inl (gJ G, 21, .inr (.inl S_may))), (aS_ways, .inl (gJ G, 21, .inr (.inl S_ways))), (aS_echo, .inl (gJ G, 21, .inr (.inl S_echo))), (aS_echoes, .inl (gJ G, 21, .inr (.inl S_echoes)))] none [(aA, .inr (3, [.ref aN, .ref A_draft, .ref aA_images, .ref aA_kept, .ref aS, .ref A_reader, .ref aA_refused, .ref aA_heardBy])), (aA_heardBy, .inl (gI G, 6, .inl (res.1))), (aN, .inr (0, [.int N_width, .int N_height, .long N_everywhere, .long N_firstColumn, .long N_lastColumn, .ref aN_grounds, .ref aN_airs, .ref aN_tolds, .ref aN_fees, .ref aN_lets, .int N_makers, .ref aN_kinds, .ref aN_cells, .ref aN_selves, .ref aN_cries, .int N_leaves, .ref aN_parts, .int N_pasts, .ref aN_past])), (aN_grounds, .inl (gJ G, 3, .inr (.inl N_grounds))), (aN_airs, .inl (gJ G, 6, .inr (.inl N_airs))), (aN_kinds, .inl (gI G, 6, .inl N_kinds)), (aN_cells, .inl (gI G, 6, .inl N_cells)), (aN_selves, .inl (gI G, 6, .inl N_selves)), (aN_cries, .inl (gI G, 6, .inl N_cries)), (aN_parts, .inl (gI G, 40, .inl N_parts)), (aS, .inr (2, [.ref (res.2.1), .int (res.2.2.1), .int (res.2.2.2.1), .int (res.2.2.2.2.1), .int (res.2.2.2.2.2.1), .int (res.2.2.2.2.2.2.1), .ref aS_may, .ref aS_ways, .ref aS_echo, .ref aS_echoes, .long (res.2.2.2.2.2.2.2.2.2.2.2.1), .long (res.2.2.2.2.2.2.2.2.2.2.2.2)])), (aS_may, .inl (gJ G, 21, .inr (.inl (res.2.2.2.2.2.2.2.1)))), (aS_ways, .inl (gJ G, 21, .inr (.inl (res.2.2.2.2.2.2.2.2.1)))), (aS_echo, .inl (gJ G, 21, .inr (.inl (res.2.2.2.2.2.2.2.2.2.1)))), (aS_echoes, .inl (gJ G, 21, .inr (.inl (res.2.2.2.2.2.2.2.2.2.2.1))))] := by
  refine Ct.mk (by decide) (Nat.le_of_ble_eq_true rfl) ?_
  intro p e s m args below meth c ls A Q C hE hW hl hQ
  have C : Cx p s args m c meth "LentAir" y_Ai_listen b_Ai_listen 4 none := C
  have hl : lv_has ls 4 [(0, .ref aA), (1, .int p1)] := hl
  unfold f_Ai_listen at h
  refine lv_iconst (v := 0) C.1.1 C.1.2.1 d_Ai_listen_0 (by decide) ?_
  refine lv_istore_n (lv' := [(2, .int 0), (0, .ref aA), (1, .int p1)]) C.1.1 C.1.2.1 d_Ai_listen_1 rfl hl (by decide) rfl (fun ls hl => ?_)
  refine lp_at (P := fun ((x1, x2, x3, x4, x5, x6, x7, x8, x9, x10, x11, x12, x13, x14) : Int32 × (Nat → Int32) × Nat × Int32 × Int32 × Int32 × Int32 × Int32 × (Nat → Int64) × (Nat → Int64) × (Nat → Int64) × (Nat → Int64) × Int64 × Int64) => ∀ (H : Heap) (locs : List Loc) (ls : Array Slot), Wd G A s.heap H locs [(aA, .inr (3, [.ref aN, .ref A_draft, .ref aA_images, .ref aA_kept, .ref aS, .ref A_reader, .ref aA_refused, .ref aA_heardBy])), (aA_heardBy, .inl (gI G, 6, .inl x2)), (aN, .inr (0, [.int N_width, .int N_height, .long N_everywhere, .long N_firstColumn, .long N_lastColumn, .ref aN_grounds, .ref aN_airs, .ref aN_tolds, .ref aN_fees, .ref aN_lets, .int N_makers, .ref aN_kinds, .ref aN_cells, .ref aN_selves, .ref aN_cries, .int N_leaves, .ref aN_parts, .int N_pasts, .ref aN_past])), (aN_grounds, .inl (gJ G, 3, .inr (.inl N_grounds))), (aN_airs, .inl (gJ G, 6, .inr (.inl N_airs))), (aN_kinds, .inl (gI G, 6, .inl N_kinds)), (aN_cells, .inl (gI G, 6, .inl N_cells)), (aN_selves, .inl (gI G, 6, .inl N_selves)), (aN_cries, .inl (gI G, 6, .inl N_cries)), (aN_parts, .inl (gI G, 40, .inl N_parts)), (aS, .inr (2, [.ref x3, .int x4, .int x5, .int x6, .int x7, .int x8, .ref aS_may, .ref aS_ways, .ref aS_echo, .ref aS_echoes, .long x13, .long x14])), (aS_may, .inl (gJ G, 21, .inr (.inl x9))), (aS_ways, .inl (gJ G, 21, .inr (.inl x10))), (aS_echo, .inl (gJ G, 21, .inr (.inl x11))), (aS_echoes, .inl (gJ G, 21, .inr (.inl x12)))] → lv_has ls 4 [(0, .ref aA), (1, .int p1), (2, .int x1)] → W p l e (RM 5 129) s m args below meth c H locs 0 0 Q (F0 m 2 ls [])) ?_ FU _ h _ _ _ hW (lv_sub hl [1, 2, 0] rfl)
  clear h hl hW
  intro rec2 ih2
  intro x h
  obtain ⟨x1, x2, x3, x4, x5, x6, x7, x8, x9, x10, x11, x12, x13, x14⟩ := x
  unfold f_Ai_listen_L2 at h
  intro H locs ls hW hl
  refine lv_iload_n C.1.1 C.1.2.1 d_Ai_listen_2 rfl (lv_at hl 2 rfl) ?_
  refine lv_aload_n C.1.1 C.1.2.1 d_Ai_listen_3 rfl (lv_at hl 0 rfl) ?_
  refine x_get C hE hW fl_Ai_12 0 rfl rfl d_Ai_listen_4 ?_
  refine x_get C hE hW fl_Ai_80 2 rfl rfl d_Ai_listen_7 ?_
  refine lv_icmp_ge (tgt := 115) C.1.1 C.1.2.1 d_Ai_listen_10 (by decide) (fun cc => ?_) (fun cc => ?_)
  · replace h := it_t cc h
    obtain rfl := Option.some.inj h
    exact x_vret C hW rfl rfl hQ d_Ai_listen_115
  · replace h := it_f cc h
    refine lv_aload_n C.1.1 C.1.2.1 d_Ai_listen_13 rfl (lv_at hl 0 rfl) ?_
    refine x_get C hE hW fl_Ai_47 0 rfl rfl d_Ai_listen_14 ?_
    refine lv_iload_n C.1.1 C.1.2.1 d_Ai_listen_17 rfl (lv_at hl 2 rfl) ?_
    refine lv_iconst (v := 0) C.1.1 C.1.2.1 d_Ai_listen_18 (by decide) ?_
    obtain ⟨hg, h⟩ := gd_at h
    obtain ⟨x15, ex15⟩ : ∃ y : Nat → Int32, y = upd x2 x1.toNatClampNeg 0 := ⟨_, rfl⟩
    replace h := lt_at ex15 h
    refine x_iast (ws' := [(aA, .inr (3, [.ref aN, .ref A_draft, .ref aA_images, .ref aA_kept, .ref aS, .ref A_reader, .ref aA_refused, .ref aA_heardBy])), (aA_heardBy, .inl (gI G, 6, .inl x15)), (aN, .inr (0, [.int N_width, .int N_height, .long N_everywhere, .long N_firstColumn, .long N_lastColumn, .ref aN_grounds, .ref aN_airs, .ref aN_tolds, .ref aN_fees, .ref aN_lets, .int N_makers, .ref aN_kinds, .ref aN_cells, .ref aN_selves, .ref aN_cries, .int N_leaves, .ref aN_parts, .int N_pasts, .ref aN_past])), (aN_grounds, .inl (gJ G, 3, .inr (.inl N_grounds))), (aN_airs, .inl (gJ G, 6, .inr (.inl N_airs))), (aN_kinds, .inl (gI G, 6, .inl N_kinds)), (aN_cells, .inl (gI G, 6, .inl N_cells)), (aN_selves, .inl (gI G, 6, .inl N_selves)), (aN_cries, .inl (gI G, 6, .inl N_cries)), (aN_parts, .inl (gI G, 40, .inl N_parts)), (aS, .inr (2, [.ref x3, .int x4, .int x5, .int x6, .int x7, .int x8, .ref aS_may, .ref aS_ways, .ref aS_echo, .ref aS_echoes, .long x13, .long x14])), (aS_may, .inl (gJ G, 21, .inr (.inl x9))), (aS_ways, .inl (gJ G, 21, .inr (.inl x10))), (aS_echo, .inl (gJ G, 21, .inr (.inl x11))), (aS_echoes, .inl (gJ G, 21, .inr (.inl x12)))]) C hE hW 1 rfl (inB_in hg) (by subst ex15; rfl) d_Ai_listen_19 (fun H locs hW => ?_)
    refine lv_aload_n C.1.1 C.1.2.1 d_Ai_listen_20 rfl (lv_at hl 0 rfl) ?_
    refine x_get C hE hW fl_Ai_12 0 rfl rfl d_Ai_listen_21 ?_
    refine x_get C hE hW fl_Ai_207 2 rfl rfl d_Ai_listen_24 ?_
    refine lv_iload_n C.1.1 C.1.2.1 d_Ai_listen_27 rfl (lv_at hl 2 rfl) ?_
    obtain ⟨hg, h⟩ := gd_at h
    refine x_iald C hE hW 8 rfl (inB_in hg) d_Ai_listen_28 ?_
    refine jn_at (P := fun ((x16, x17, x18, x19, x20, x21, x22, x23, x24, x25, x26, x27, x28) : (Nat → Int32) × Nat × Int32 × Int32 × Int32 × Int32 × Int32 × (Nat → Int64) × (Nat → Int64) × (Nat → Int64) × (Nat → Int64) × Int64 × Int64) => ∀ (H : Heap) (locs : List Loc) (ls : Array Slot), Wd G A s.heap H locs [(aA, .inr (3, [.ref aN, .ref A_draft, .ref aA_images, .ref aA_kept, .ref aS, .ref A_reader, .ref aA_refused, .ref aA_heardBy])), (aA_heardBy, .inl (gI G, 6, .inl x16)), (aN, .inr (0, [.int N_width, .int N_height, .long N_everywhere, .long N_firstColumn, .long N_lastColumn, .ref aN_grounds, .ref aN_airs, .ref aN_tolds, .ref aN_fees, .ref aN_lets, .int N_makers, .ref aN_kinds, .ref aN_cells, .ref aN_selves, .ref aN_cries, .int N_leaves, .ref aN_parts, .int N_pasts, .ref aN_past])), (aN_grounds, .inl (gJ G, 3, .inr (.inl N_grounds))), (aN_airs, .inl (gJ G, 6, .inr (.inl N_airs))), (aN_kinds, .inl (gI G, 6, .inl N_kinds)), (aN_cells, .inl (gI G, 6, .inl N_cells)), (aN_selves, .inl (gI G, 6, .inl N_selves)), (aN_cries, .inl (gI G, 6, .inl N_cries)), (aN_parts, .inl (gI G, 40, .inl N_parts)), (aS, .inr (2, [.ref x17, .int x18, .int x19, .int x20, .int x21, .int x22, .ref aS_may, .ref aS_ways, .ref aS_echo, .ref aS_echoes, .long x27, .long x28])), (aS_may, .inl (gJ G, 21, .inr (.inl x23))), (aS_ways, .inl (gJ G, 21, .inr (.inl x24))), (aS_echo, .inl (gJ G, 21, .inr (.inl x25))), (aS_echoes, .inl (gJ G, 21, .inr (.inl x26)))] → lv_has ls 4 [(0, .ref aA), (1, .int p1), (2, .int x1)] → W p l e (RM 5 129) s m args below meth c H locs 0 0 Q (F0 m 109 ls [])) h ?_ ?_
    · skip
      intro x h
      obtain ⟨x16, x17, x18, x19, x20, x21, x22, x23, x24, x25, x26, x27, x28⟩ := x
      intro H locs ls hW hl
      obtain ⟨x29, ex29⟩ : ∃ y : Int32, y = x1 + 1 := ⟨_, rfl⟩
      replace h := lt_at ex29 h
      refine lv_iinc (v := x29) (lv' := [(2, .int x29), (0, .ref aA), (1, .int p1)]) C.1.1 C.1.2.1 d_Ai_listen_109 hl (k := 2) rfl (by rw [ex29]; rfl) (by decide) rfl (fun ls hl => ?_)
      refine lv_goto (tgt := 2) C.1.1 C.1.2.1 d_Ai_listen_112 (by decide) ?_
      exact ih2 _ h _ _ _ hW (lv_sub hl [1, 2, 0] rfl)
    · intro J109 hJ109 h
      refine lv_if_le (tgt := 109) C.1.1 C.1.2.1 d_Ai_listen_29 (by decide) (fun cc => ?_) (fun cc => ?_)
      · replace h := it_t cc h
        exact hJ109 _ h _ _ _ hW (lv_sub hl [0, 1, 2] rfl)
      · replace h := it_f cc h
        refine lv_aload_n C.1.1 C.1.2.1 d_Ai_listen_32 rfl (lv_at hl 0 rfl) ?_
        refine x_get C hE hW fl_Ai_32 0 rfl rfl d_Ai_listen_33 ?_
        refine lv_aload_n C.1.1 C.1.2.1 d_Ai_listen_36 rfl (lv_at hl 0 rfl) ?_
        refine x_get C hE hW fl_Ai_12 0 rfl rfl d_Ai_listen_37 ?_
        refine lv_iload_n C.1.1 C.1.2.1 d_Ai_listen_40 rfl (lv_at hl 2 rfl) ?_
        refine lv_aload_n C.1.1 C.1.2.1 d_Ai_listen_41 rfl (lv_at hl 0 rfl) ?_
        refine x_get C hE hW fl_Ai_12 0 rfl rfl d_Ai_listen_42 ?_
        refine x_get C hE hW fl_Ai_207 2 rfl rfl d_Ai_listen_45 ?_
        refine lv_iload_n C.1.1 C.1.2.1 d_Ai_listen_48 rfl (lv_at hl 2 rfl) ?_
        obtain ⟨hg, h⟩ := gd_at h
        refine x_iald C hE hW 8 rfl (inB_in hg) d_Ai_listen_49 ?_
        refine lv_iload_n C.1.1 C.1.2.1 d_Ai_listen_50 rfl (lv_at hl 1 rfl) ?_
        refine lv_iconst (v := 0) C.1.1 C.1.2.1 d_Ai_listen_51 (by decide) ?_
        refine lv_iconst (v := 0) C.1.1 C.1.2.1 d_Ai_listen_52 (by decide) ?_
        obtain ⟨⟨x30, x31, x32, x33, x34, x35, x36, x37, x38, x39, x40⟩, hc41, h⟩ := bd_at h
        refine x_callV (ws' := [(aA, .inr (3, [.ref aN, .ref A_draft, .ref aA_images, .ref aA_kept, .ref aS, .ref A_reader, .ref aA_refused, .ref aA_heardBy])), (aA_heardBy, .inl (gI G, 6, .inl x15)), (aN, .inr (0, [.int N_width, .int N_height, .long N_everywhere, .long N_firstColumn, .long N_lastColumn, .ref aN_grounds, .ref aN_airs, .ref aN_tolds, .ref aN_fees, .ref aN_lets, .int N_makers, .ref aN_kinds, .ref aN_cells, .ref aN_selves, .ref aN_cries, .int N_leaves, .ref aN_parts, .int N_pasts, .ref aN_past])), (aN_grounds, .inl (gJ G, 3, .inr (.inl N_grounds))), (aN_airs, .inl (gJ G, 6, .inr (.inl N_airs))), (aN_kinds, .inl (gI G, 6, .inl N_kinds)), (aN_cells, .inl (gI G, 6, .inl N_cells)), (aN_selves, .inl (gI G, 6, .inl N_selves)), (aN_cries, .inl (gI G, 6, .inl N_cries)), (aN_parts, .inl (gI G, 40, .inl N_parts)), (aS, .inr (2, [.ref aN, .int x30, .int x31, .int x32, .int x33, .int x34, .ref aS_may, .ref aS_ways, .ref aS_echo, .ref aS_echoes, .long x39, .long x40])), (aS_may, .inl (gJ G, 21, .inr (.inl x35))), (aS_ways, .inl (gJ G, 21, .inr (.inl x36))), (aS_echo, .inl (gJ G, 21, .inr (.inl x37))), (aS_echoes, .inl (gJ G, 21, .inr (.inl x38)))]) (stk := []) (rest := []) (As := [.ref aN, .int x1, .int (N_cries x1.toNatClampNeg), .int p1, .int 0, .int 0]) (q0 := 10) C hE hW (c_Sd_make l G aN aN_grounds aN_airs aN_tolds aN_fees aN_lets aN_kinds aN_cells aN_selves aN_cries aN_parts aN_past aS aS_may aS_ways aS_echo aS_echoes N_width N_height N_everywhere N_firstColumn N_lastColumn N_makers N_leaves N_pasts x3 x4 x5 x6 x7 x8 x13 x14 N_grounds N_airs N_kinds N_cells N_selves N_parts x9 x10 x11 x12 x1 (N_cries x1.toNatClampNeg) p1 0 0 hc41) cv_Sd_make tw562 hl rfl rfl (Nat.le_of_ble_eq_true rfl) rfl rfl rfl ⟨Nat.le_of_ble_eq_true rfl, Nat.le_of_ble_eq_true rfl⟩ ⟨Nat.zero_le _, Nat.zero_le _⟩ [2, 3, 4, 5, 6, 7, 9, 10, 11, 12, 13, 14] [0, 1, 8] [0, 1, 3, 4, 5, 6, 7, 8, 2, 9, 10, 11, 12, 13, 14] rfl rfl rfl (by decide) rfl rfl rfl rfl d_Ai_listen_53 (fun H locs hW => ?_)
        refine lv_iconst (v := 0) C.1.1 C.1.2.1 d_Ai_listen_56 (by decide) ?_
        refine lv_istore_n (lv' := [(3, .int 0), (0, .ref aA), (1, .int p1), (2, .int x1)]) C.1.1 C.1.2.1 d_Ai_listen_57 rfl hl (by decide) rfl (fun ls hl => ?_)
        refine lp_at (P := fun ((x42, x43) : Int32 × (Nat → Int32)) => ∀ (H : Heap) (locs : List Loc) (ls : Array Slot), Wd G A s.heap H locs [(aA, .inr (3, [.ref aN, .ref A_draft, .ref aA_images, .ref aA_kept, .ref aS, .ref A_reader, .ref aA_refused, .ref aA_heardBy])), (aA_heardBy, .inl (gI G, 6, .inl x43)), (aN, .inr (0, [.int N_width, .int N_height, .long N_everywhere, .long N_firstColumn, .long N_lastColumn, .ref aN_grounds, .ref aN_airs, .ref aN_tolds, .ref aN_fees, .ref aN_lets, .int N_makers, .ref aN_kinds, .ref aN_cells, .ref aN_selves, .ref aN_cries, .int N_leaves, .ref aN_parts, .int N_pasts, .ref aN_past])), (aN_grounds, .inl (gJ G, 3, .inr (.inl N_grounds))), (aN_airs, .inl (gJ G, 6, .inr (.inl N_airs))), (aN_kinds, .inl (gI G, 6, .inl N_kinds)), (aN_cells, .inl (gI G, 6, .inl N_cells)), (aN_selves, .inl (gI G, 6, .inl N_selves)), (aN_cries, .inl (gI G, 6, .inl N_cries)), (aN_parts, .inl (gI G, 40, .inl N_parts)), (aS, .inr (2, [.ref aN, .int x30, .int x31, .int x32, .int x33, .int x34, .ref aS_may, .ref aS_ways, .ref aS_echo, .ref aS_echoes, .long x39, .long x40])), (aS_may, .inl (gJ G, 21, .inr (.inl x35))), (aS_ways, .inl (gJ G, 21, .inr (.inl x36))), (aS_echo, .inl (gJ G, 21, .inr (.inl x37))), (aS_echoes, .inl (gJ G, 21, .inr (.inl x38)))] → lv_has ls 4 [(0, .ref aA), (1, .int p1), (2, .int x1), (3, .int x42)] → W p l e (RM 5 129) s m args below meth c H locs 0 0 Q (F0 m 58 ls [])) ?_ FU _ h _ _ _ hW (lv_sub hl [1, 2, 3, 0] rfl)
        clear h hl hW
        intro rec58 ih58
        intro x h
        obtain ⟨x42, x43⟩ := x
        unfold f_Ai_listen_L58 at h
        intro H locs ls hW hl
        refine lv_iload_n C.1.1 C.1.2.1 d_Ai_listen_58 rfl (lv_at hl 3 rfl) ?_
        refine lv_aload_n C.1.1 C.1.2.1 d_Ai_listen_59 rfl (lv_at hl 0 rfl) ?_
        refine x_get C hE hW fl_Ai_12 0 rfl rfl d_Ai_listen_60 ?_
        refine x_get C hE hW fl_Ai_80 2 rfl rfl d_Ai_listen_63 ?_
        refine lv_icmp_ge (tgt := 109) C.1.1 C.1.2.1 d_Ai_listen_66 (by decide) (fun cc => ?_) (fun cc => ?_)
        · replace h := it_t cc h
          exact hJ109 _ h _ _ _ hW (lv_sub hl [0, 1, 2] rfl)
        · replace h := it_f cc h
          refine lv_aload_n C.1.1 C.1.2.1 d_Ai_listen_69 rfl (lv_at hl 0 rfl) ?_
          refine x_get C hE hW fl_Ai_32 0 rfl rfl d_Ai_listen_70 ?_
          refine x_get C hE hW fl_Ai_147 10 rfl rfl d_Ai_listen_73 ?_
          refine lv_aload_n C.1.1 C.1.2.1 d_Ai_listen_76 rfl (lv_at hl 0 rfl) ?_
          refine x_get C hE hW fl_Ai_12 0 rfl rfl d_Ai_listen_77 ?_
          refine x_get C hE hW fl_Ai_272 2 rfl rfl d_Ai_listen_80 ?_
          refine lv_iload_n C.1.1 C.1.2.1 d_Ai_listen_83 rfl (lv_at hl 3 rfl) ?_
          obtain ⟨hg, h⟩ := gd_at h
          refine x_iald C hE hW 6 rfl (inB_in hg) d_Ai_listen_84 ?_
          obtain ⟨x44, hc45, h⟩ := bd_at h
          refine x_callS (ws' := [(aA, .inr (3, [.ref aN, .ref A_draft, .ref aA_images, .ref aA_kept, .ref aS, .ref A_reader, .ref aA_refused, .ref aA_heardBy])), (aA_heardBy, .inl (gI G, 6, .inl x43)), (aN, .inr (0, [.int N_width, .int N_height, .long N_everywhere, .long N_firstColumn, .long N_lastColumn, .ref aN_grounds, .ref aN_airs, .ref aN_tolds, .ref aN_fees, .ref aN_lets, .int N_makers, .ref aN_kinds, .ref aN_cells, .ref aN_selves, .ref aN_cries, .int N_leaves, .ref aN_parts, .int N_pasts, .ref aN_past])), (aN_grounds, .inl (gJ G, 3, .inr (.inl N_grounds))), (aN_airs, .inl (gJ G, 6, .inr (.inl N_airs))), (aN_kinds, .inl (gI G, 6, .inl N_kinds)), (aN_cells, .inl (gI G, 6, .inl N_cells)), (aN_selves, .inl (gI G, 6, .inl N_selves)), (aN_cries, .inl (gI G, 6, .inl N_cries)), (aN_parts, .inl (gI G, 40, .inl N_parts)), (aS, .inr (2, [.ref aN, .int x30, .int x31, .int x32, .int x33, .int x34, .ref aS_may, .ref aS_ways, .ref aS_echo, .ref aS_echoes, .long x39, .long x40])), (aS_may, .inl (gJ G, 21, .inr (.inl x35))), (aS_ways, .inl (gJ G, 21, .inr (.inl x36))), (aS_echo, .inl (gJ G, 21, .inr (.inl x37))), (aS_echoes, .inl (gJ G, 21, .inr (.inl x38)))]) (stk := [.int x44]) (rest := []) (As := [.long x40, .int (N_cells x42.toNatClampNeg)]) C hE hW (c_Ai_hasCell l G x40 (N_cells x42.toNatClampNeg) hc45) cv_Ai_hasCell tw668 hl rfl rfl (Nat.le_of_ble_eq_true rfl) ⟨Nat.le_of_ble_eq_true rfl, Nat.le_of_ble_eq_true rfl⟩ ⟨Nat.zero_le _, Nat.zero_le _⟩ [] [0, 1, 2, 3, 4, 5, 6, 7, 8, 9, 10, 11, 12, 13, 14] [0, 1, 2, 3, 4, 5, 6, 7, 8, 9, 10, 11, 12, 13, 14] rfl rfl rfl (by decide) rfl rfl rfl rfl d_Ai_listen_85 (fun H locs hW => ?_)
          refine jn_at (P := fun (x46 : Nat → Int32) => ∀ (H : Heap) (locs : List Loc) (ls : Array Slot), Wd G A s.heap H locs [(aA, .inr (3, [.ref aN, .ref A_draft, .ref aA_images, .ref aA_kept, .ref aS, .ref A_reader, .ref aA_refused, .ref aA_heardBy])), (aA_heardBy, .inl (gI G, 6, .inl x46)), (aN, .inr (0, [.int N_width, .int N_height, .long N_everywhere, .long N_firstColumn, .long N_lastColumn, .ref aN_grounds, .ref aN_airs, .ref aN_tolds, .ref aN_fees, .ref aN_lets, .int N_makers, .ref aN_kinds, .ref aN_cells, .ref aN_selves, .ref aN_cries, .int N_leaves, .ref aN_parts, .int N_pasts, .ref aN_past])), (aN_grounds, .inl (gJ G, 3, .inr (.inl N_grounds))), (aN_airs, .inl (gJ G, 6, .inr (.inl N_airs))), (aN_kinds, .inl (gI G, 6, .inl N_kinds)), (aN_cells, .inl (gI G, 6, .inl N_cells)), (aN_selves, .inl (gI G, 6, .inl N_selves)), (aN_cries, .inl (gI G, 6, .inl N_cries)), (aN_parts, .inl (gI G, 40, .inl N_parts)), (aS, .inr (2, [.ref aN, .int x30, .int x31, .int x32, .int x33, .int x34, .ref aS_may, .ref aS_ways, .ref aS_echo, .ref aS_echoes, .long x39, .long x40])), (aS_may, .inl (gJ G, 21, .inr (.inl x35))), (aS_ways, .inl (gJ G, 21, .inr (.inl x36))), (aS_echo, .inl (gJ G, 21, .inr (.inl x37))), (aS_echoes, .inl (gJ G, 21, .inr (.inl x38)))] → lv_has ls 4 [(0, .ref aA), (1, .int p1), (2, .int x1), (3, .int x42)] → W p l e (RM 5 129) s m args below meth c H locs 0 0 Q (F0 m 103 ls [])) h ?_ ?_
          · skip
            intro x46 h
            intro H locs ls hW hl
            obtain ⟨x47, ex47⟩ : ∃ y : Int32, y = x42 + 1 := ⟨_, rfl⟩
            replace h := lt_at ex47 h
            refine lv_iinc (v := x47) (lv' := [(3, .int x47), (0, .ref aA), (1, .int p1), (2, .int x1)]) C.1.1 C.1.2.1 d_Ai_listen_103 hl (k := 3) rfl (by rw [ex47]; rfl) (by decide) rfl (fun ls hl => ?_)
            refine lv_goto (tgt := 58) C.1.1 C.1.2.1 d_Ai_listen_106 (by decide) ?_
            exact ih58 _ h _ _ _ hW (lv_sub hl [1, 2, 3, 0] rfl)
          · intro J103 hJ103 h
            refine lv_if_eq (tgt := 103) C.1.1 C.1.2.1 d_Ai_listen_88 (by decide) (fun cc => ?_) (fun cc => ?_)
            · replace h := it_t cc h
              exact hJ103 _ h _ _ _ hW (lv_sub hl [0, 1, 2, 3] rfl)
            · replace h := it_f cc h
              refine lv_aload_n C.1.1 C.1.2.1 d_Ai_listen_91 rfl (lv_at hl 0 rfl) ?_
              refine x_get C hE hW fl_Ai_47 0 rfl rfl d_Ai_listen_92 ?_
              refine lv_iload_n C.1.1 C.1.2.1 d_Ai_listen_95 rfl (lv_at hl 2 rfl) ?_
              refine lv_dup2_11 C.1.1 C.1.2.1 d_Ai_listen_96 rfl rfl ?_
              obtain ⟨hg, h⟩ := gd_at h
              refine x_iald C hE hW 1 rfl (inB_in hg) d_Ai_listen_97 ?_
              refine lv_iconst (v := 1) C.1.1 C.1.2.1 d_Ai_listen_98 (by decide) ?_
              refine lv_iload_n C.1.1 C.1.2.1 d_Ai_listen_99 rfl (lv_at hl 3 rfl) ?_
              refine lv_ishl C.1.1 C.1.2.1 d_Ai_listen_100 ?_
              refine lv_ior C.1.1 C.1.2.1 d_Ai_listen_101 ?_
              obtain ⟨hg, h⟩ := gd_at h
              obtain ⟨x48, ex48⟩ : ∃ y : Nat → Int32, y = upd x43 x1.toNatClampNeg ((x43 x1.toNatClampNeg) ||| ((1 : Int32) <<< (x42 &&& 31))) := ⟨_, rfl⟩
              replace h := lt_at ex48 h
              refine x_iast (ws' := [(aA, .inr (3, [.ref aN, .ref A_draft, .ref aA_images, .ref aA_kept, .ref aS, .ref A_reader, .ref aA_refused, .ref aA_heardBy])), (aA_heardBy, .inl (gI G, 6, .inl x48)), (aN, .inr (0, [.int N_width, .int N_height, .long N_everywhere, .long N_firstColumn, .long N_lastColumn, .ref aN_grounds, .ref aN_airs, .ref aN_tolds, .ref aN_fees, .ref aN_lets, .int N_makers, .ref aN_kinds, .ref aN_cells, .ref aN_selves, .ref aN_cries, .int N_leaves, .ref aN_parts, .int N_pasts, .ref aN_past])), (aN_grounds, .inl (gJ G, 3, .inr (.inl N_grounds))), (aN_airs, .inl (gJ G, 6, .inr (.inl N_airs))), (aN_kinds, .inl (gI G, 6, .inl N_kinds)), (aN_cells, .inl (gI G, 6, .inl N_cells)), (aN_selves, .inl (gI G, 6, .inl N_selves)), (aN_cries, .inl (gI G, 6, .inl N_cries)), (aN_parts, .inl (gI G, 40, .inl N_parts)), (aS, .inr (2, [.ref aN, .int x30, .int x31, .int x32, .int x33, .int x34, .ref aS_may, .ref aS_ways, .ref aS_echo, .ref aS_echoes, .long x39, .long x40])), (aS_may, .inl (gJ G, 21, .inr (.inl x35))), (aS_ways, .inl (gJ G, 21, .inr (.inl x36))), (aS_echo, .inl (gJ G, 21, .inr (.inl x37))), (aS_echoes, .inl (gJ G, 21, .inr (.inl x38)))]) C hE hW 1 rfl (inB_in hg) (by subst ex48; rfl) d_Ai_listen_102 (fun H locs hW => ?_)
              exact hJ103 _ h _ _ _ hW (lv_sub hl [0, 1, 2, 3] rfl)
set_option maxHeartbeats 4000000 in
set_option maxRecDepth 100000 in
theorem c_Ai_leastOf (l : Launch) (G : Gl) (p1 : Int32) {res : Int32} (h : f_Ai_leastOf p1 = some res) : Ct l y_Ai_leastOf b_Ai_leastOf 2 (some .int) 0 0 G [.int p1] [] (some (.int res)) [] := by
  refine Ct.mk (by decide) (Nat.le_of_ble_eq_true rfl) ?_
  intro p e s m args below meth c ls A Q C hE hW hl hQ
  have C : Cx p s args m c meth "LentAir" y_Ai_leastOf b_Ai_leastOf 2 (some .int) := C
  have hl : lv_has ls 2 [(0, .int p1)] := hl
  unfold f_Ai_leastOf at h
  refine lv_iconst (v := 0) C.1.1 C.1.2.1 d_Ai_leastOf_0 (by decide) ?_
  refine lv_istore_n (lv' := [(1, .int 0), (0, .int p1)]) C.1.1 C.1.2.1 d_Ai_leastOf_1 rfl hl (by decide) rfl (fun ls hl => ?_)
  refine lp_at (P := fun (x1 : Int32) => ∀ (H : Heap) (locs : List Loc) (ls : Array Slot), Wd G A s.heap H locs [] → lv_has ls 2 [(0, .int p1), (1, .int x1)] → W p l e (RM 0 0) s m args below meth c H locs 0 0 Q (F0 m 2 ls [])) ?_ FU _ h _ _ _ hW (lv_sub hl [1, 0] rfl)
  clear h hl hW
  intro rec2 ih2
  intro x1 h
  unfold f_Ai_leastOf_L2 at h
  intro H locs ls hW hl
  refine lv_iload_n C.1.1 C.1.2.1 d_Ai_leastOf_2 rfl (lv_at hl 1 rfl) ?_
  refine lv_bipush (v := 6) C.1.1 C.1.2.1 d_Ai_leastOf_3 (by decide) ?_
  refine lv_icmp_ge (tgt := 24) C.1.1 C.1.2.1 d_Ai_leastOf_5 (by decide) (fun cc => ?_) (fun cc => ?_)
  · replace h := it_t cc h
    refine lv_iconst (v := (-1)) C.1.1 C.1.2.1 d_Ai_leastOf_24 (by decide) ?_
    obtain rfl := Option.some.inj h
    exact x_iret C hW rfl rfl hQ d_Ai_leastOf_25
  · replace h := it_f cc h
    refine lv_iload_n C.1.1 C.1.2.1 d_Ai_leastOf_8 rfl (lv_at hl 0 rfl) ?_
    refine lv_iload_n C.1.1 C.1.2.1 d_Ai_leastOf_9 rfl (lv_at hl 1 rfl) ?_
    refine lv_ishr C.1.1 C.1.2.1 d_Ai_leastOf_10 ?_
    refine lv_iconst (v := 1) C.1.1 C.1.2.1 d_Ai_leastOf_11 (by decide) ?_
    refine lv_iand C.1.1 C.1.2.1 d_Ai_leastOf_12 ?_
    refine lv_if_eq (tgt := 18) C.1.1 C.1.2.1 d_Ai_leastOf_13 (by decide) (fun cc => ?_) (fun cc => ?_)
    · replace h := it_t cc h
      obtain ⟨x2, ex2⟩ : ∃ y : Int32, y = x1 + 1 := ⟨_, rfl⟩
      replace h := lt_at ex2 h
      refine lv_iinc (v := x2) (lv' := [(1, .int x2), (0, .int p1)]) C.1.1 C.1.2.1 d_Ai_leastOf_18 hl (k := 1) rfl (by rw [ex2]; rfl) (by decide) rfl (fun ls hl => ?_)
      refine lv_goto (tgt := 2) C.1.1 C.1.2.1 d_Ai_leastOf_21 (by decide) ?_
      exact ih2 _ h _ _ _ hW (lv_sub hl [1, 0] rfl)
    · replace h := it_f cc h
      refine lv_iload_n C.1.1 C.1.2.1 d_Ai_leastOf_16 rfl (lv_at hl 1 rfl) ?_
      obtain rfl := Option.some.inj h
      exact x_iret C hW rfl rfl hQ d_Ai_leastOf_17
set_option maxHeartbeats 4000000 in
set_option maxRecDepth 100000 in
theorem c_Ai_behind (l : Launch) (G : Gl) (aA : Nat) (aA_images : Nat) (aA_kept : Nat) (aA_refused : Nat) (aA_heardBy : Nat) (aN : Nat) (aN_grounds : Nat) (aN_airs : Nat) (aN_tolds : Nat) (aN_fees : Nat) (aN_lets : Nat) (aN_kinds : Nat) (aN_cells : Nat) (aN_selves : Nat) (aN_cries : Nat) (aN_parts : Nat) (aN_past : Nat) (A_draft : Nat) (A_sound : Nat) (A_reader : Nat) (N_width : Int32) (N_height : Int32) (N_everywhere : Int64) (N_firstColumn : Int64) (N_lastColumn : Int64) (N_makers : Int32) (N_leaves : Int32) (N_pasts : Int32) (A_heardBy : Nat → Int32) (p1 : Int32) {res : Int32} (h : f_Ai_behind N_makers A_heardBy p1 = some res) : Ct l y_Ai_behind b_Ai_behind 4 (some .int) 0 0 G [.ref aA, .int p1] [(aA, .inr (3, [.ref aN, .ref A_draft, .ref aA_images, .ref aA_kept, .ref A_sound, .ref A_reader, .ref aA_refused, .ref aA_heardBy])), (aA_heardBy, .inl (gI G, 6, .inl A_heardBy)), (aN, .inr (0, [.int N_width, .int N_height, .long N_everywhere, .long N_firstColumn, .long N_lastColumn, .ref aN_grounds, .ref aN_airs, .ref aN_tolds, .ref aN_fees, .ref aN_lets, .int N_makers, .ref aN_kinds, .ref aN_cells, .ref aN_selves, .ref aN_cries, .int N_leaves, .ref aN_parts, .int N_pasts, .ref aN_past]))] (some (.int res)) [(aA, .inr (3, [.ref aN, .ref A_draft, .ref aA_images, .ref aA_kept, .ref A_sound, .ref A_reader, .ref aA_refused, .ref aA_heardBy])), (aA_heardBy, .inl (gI G, 6, .inl A_heardBy)), (aN, .inr (0, [.int N_width, .int N_height, .long N_everywhere, .long N_firstColumn, .long N_lastColumn, .ref aN_grounds, .ref aN_airs, .ref aN_tolds, .ref aN_fees, .ref aN_lets, .int N_makers, .ref aN_kinds, .ref aN_cells, .ref aN_selves, .ref aN_cries, .int N_leaves, .ref aN_parts, .int N_pasts, .ref aN_past]))] := by
  refine Ct.mk (by decide) (Nat.le_of_ble_eq_true rfl) ?_
  intro p e s m args below meth c ls A Q C hE hW hl hQ
  have C : Cx p s args m c meth "LentAir" y_Ai_behind b_Ai_behind 4 (some .int) := C
  have hl : lv_has ls 4 [(0, .ref aA), (1, .int p1)] := hl
  unfold f_Ai_behind at h
  refine lv_iload_n C.1.1 C.1.2.1 d_Ai_behind_0 rfl (lv_at hl 1 rfl) ?_
  refine lv_istore_n (lv' := [(2, .int p1), (0, .ref aA), (1, .int p1)]) C.1.1 C.1.2.1 d_Ai_behind_1 rfl hl (by decide) rfl (fun ls hl => ?_)
  refine lv_iconst (v := 0) C.1.1 C.1.2.1 d_Ai_behind_2 (by decide) ?_
  refine lv_istore_n (lv' := [(3, .int 0), (2, .int p1), (0, .ref aA), (1, .int p1)]) C.1.1 C.1.2.1 d_Ai_behind_3 rfl hl (by decide) rfl (fun ls hl => ?_)
  refine lp_at (P := fun ((x1, x2) : Int32 × Int32) => ∀ (H : Heap) (locs : List Loc) (ls : Array Slot), Wd G A s.heap H locs [(aA, .inr (3, [.ref aN, .ref A_draft, .ref aA_images, .ref aA_kept, .ref A_sound, .ref A_reader, .ref aA_refused, .ref aA_heardBy])), (aA_heardBy, .inl (gI G, 6, .inl A_heardBy)), (aN, .inr (0, [.int N_width, .int N_height, .long N_everywhere, .long N_firstColumn, .long N_lastColumn, .ref aN_grounds, .ref aN_airs, .ref aN_tolds, .ref aN_fees, .ref aN_lets, .int N_makers, .ref aN_kinds, .ref aN_cells, .ref aN_selves, .ref aN_cries, .int N_leaves, .ref aN_parts, .int N_pasts, .ref aN_past]))] → lv_has ls 4 [(0, .ref aA), (1, .int p1), (2, .int x1), (3, .int x2)] → W p l e (RM 0 0) s m args below meth c H locs 0 0 Q (F0 m 4 ls [])) ?_ FU _ h _ _ _ hW (lv_sub hl [2, 3, 1, 0] rfl)
  clear h hl hW
  intro rec4 ih4
  intro x h
  obtain ⟨x1, x2⟩ := x
  unfold f_Ai_behind_L4 at h
  intro H locs ls hW hl
  refine lv_iload_n C.1.1 C.1.2.1 d_Ai_behind_4 rfl (lv_at hl 3 rfl) ?_
  refine lv_aload_n C.1.1 C.1.2.1 d_Ai_behind_5 rfl (lv_at hl 0 rfl) ?_
  refine x_get C hE hW fl_Ai_12 0 rfl rfl d_Ai_behind_6 ?_
  refine x_get C hE hW fl_Ai_80 2 rfl rfl d_Ai_behind_9 ?_
  refine lv_icmp_ge (tgt := 38) C.1.1 C.1.2.1 d_Ai_behind_12 (by decide) (fun cc => ?_) (fun cc => ?_)
  · replace h := it_t cc h
    refine lv_iload_n C.1.1 C.1.2.1 d_Ai_behind_38 rfl (lv_at hl 2 rfl) ?_
    obtain rfl := Option.some.inj h
    exact x_iret C hW rfl rfl hQ d_Ai_behind_39
  · replace h := it_f cc h
    refine lv_aload_n C.1.1 C.1.2.1 d_Ai_behind_15 rfl (lv_at hl 0 rfl) ?_
    refine x_get C hE hW fl_Ai_47 0 rfl rfl d_Ai_behind_16 ?_
    refine lv_iload_n C.1.1 C.1.2.1 d_Ai_behind_19 rfl (lv_at hl 3 rfl) ?_
    obtain ⟨hg, h⟩ := gd_at h
    refine x_iald C hE hW 1 rfl (inB_in hg) d_Ai_behind_20 ?_
    refine lv_iload_n C.1.1 C.1.2.1 d_Ai_behind_21 rfl (lv_at hl 1 rfl) ?_
    refine lv_iand C.1.1 C.1.2.1 d_Ai_behind_22 ?_
    refine jn_at (P := fun (x3 : Int32) => ∀ (H : Heap) (locs : List Loc) (ls : Array Slot), Wd G A s.heap H locs [(aA, .inr (3, [.ref aN, .ref A_draft, .ref aA_images, .ref aA_kept, .ref A_sound, .ref A_reader, .ref aA_refused, .ref aA_heardBy])), (aA_heardBy, .inl (gI G, 6, .inl A_heardBy)), (aN, .inr (0, [.int N_width, .int N_height, .long N_everywhere, .long N_firstColumn, .long N_lastColumn, .ref aN_grounds, .ref aN_airs, .ref aN_tolds, .ref aN_fees, .ref aN_lets, .int N_makers, .ref aN_kinds, .ref aN_cells, .ref aN_selves, .ref aN_cries, .int N_leaves, .ref aN_parts, .int N_pasts, .ref aN_past]))] → lv_has ls 4 [(0, .ref aA), (1, .int p1), (2, .int x3), (3, .int x2)] → W p l e (RM 0 0) s m args below meth c H locs 0 0 Q (F0 m 32 ls [])) h ?_ ?_
    · skip
      intro x3 h
      intro H locs ls hW hl
      obtain ⟨x4, ex4⟩ : ∃ y : Int32, y = x2 + 1 := ⟨_, rfl⟩
      replace h := lt_at ex4 h
      refine lv_iinc (v := x4) (lv' := [(3, .int x4), (0, .ref aA), (1, .int p1), (2, .int x3)]) C.1.1 C.1.2.1 d_Ai_behind_32 hl (k := 3) rfl (by rw [ex4]; rfl) (by decide) rfl (fun ls hl => ?_)
      refine lv_goto (tgt := 4) C.1.1 C.1.2.1 d_Ai_behind_35 (by decide) ?_
      exact ih4 _ h _ _ _ hW (lv_sub hl [1, 2, 3, 0] rfl)
    · intro J32 hJ32 h
      refine lv_if_eq (tgt := 32) C.1.1 C.1.2.1 d_Ai_behind_23 (by decide) (fun cc => ?_) (fun cc => ?_)
      · replace h := it_t cc h
        exact hJ32 _ h _ _ _ hW (lv_sub hl [0, 1, 2, 3] rfl)
      · replace h := it_f cc h
        refine lv_iload_n C.1.1 C.1.2.1 d_Ai_behind_26 rfl (lv_at hl 2 rfl) ?_
        refine lv_iconst (v := 1) C.1.1 C.1.2.1 d_Ai_behind_27 (by decide) ?_
        refine lv_iload_n C.1.1 C.1.2.1 d_Ai_behind_28 rfl (lv_at hl 3 rfl) ?_
        refine lv_ishl C.1.1 C.1.2.1 d_Ai_behind_29 ?_
        refine lv_ior C.1.1 C.1.2.1 d_Ai_behind_30 ?_
        refine lv_topi (fun x5 ex5 => ?_)
        replace h := lt_at ex5 h
        refine lv_istore_n (lv' := [(2, .int x5), (0, .ref aA), (1, .int p1), (3, .int x2)]) C.1.1 C.1.2.1 d_Ai_behind_31 rfl hl (by decide) rfl (fun ls hl => ?_)
        exact hJ32 _ h _ _ _ hW (lv_sub hl [1, 2, 0, 3] rfl)
set_option maxHeartbeats 4000000 in
set_option maxRecDepth 100000 in
theorem c_Ai_criers (l : Launch) (G : Gl) (aA : Nat) (aA_images : Nat) (aA_kept : Nat) (aA_refused : Nat) (aA_heardBy : Nat) (aN : Nat) (aN_grounds : Nat) (aN_airs : Nat) (aN_tolds : Nat) (aN_fees : Nat) (aN_lets : Nat) (aN_kinds : Nat) (aN_cells : Nat) (aN_selves : Nat) (aN_cries : Nat) (aN_parts : Nat) (aN_past : Nat) (aS : Nat) (aS_may : Nat) (aS_ways : Nat) (aS_echo : Nat) (aS_echoes : Nat) (A_draft : Nat) (A_reader : Nat) (N_width : Int32) (N_height : Int32) (N_everywhere : Int64) (N_firstColumn : Int64) (N_lastColumn : Int64) (N_makers : Int32) (N_leaves : Int32) (N_pasts : Int32) (S_land : Nat) (S_maker : Int32) (S_loud : Int32) (S_hour : Int32) (S_bought : Int32) (S_gone : Int32) (S_straight : Int64) (S_all : Int64) (A_refused : Nat → Int32) (A_heardBy : Nat → Int32) (N_grounds : Nat → Int64) (N_airs : Nat → Int64) (N_kinds : Nat → Int32) (N_cells : Nat → Int32) (N_selves : Nat → Int32) (N_cries : Nat → Int32) (N_parts : Nat → Int32) (S_may : Nat → Int64) (S_ways : Nat → Int64) (S_echo : Nat → Int64) (S_echoes : Nat → Int64) (p1 : Int32) (p2 : Int32) (p3 : Int32) (p4 : Int32) {res : Int32 × (Nat → Int32) × (Nat → Int32) × Nat × Int32 × Int32 × Int32 × Int32 × Int32 × (Nat → Int64) × (Nat → Int64) × (Nat → Int64) × (Nat → Int64) × Int64 × Int64} (h : f_Ai_criers aN N_width N_everywhere N_firstColumn N_lastColumn N_makers N_leaves S_land S_maker S_loud S_hour S_bought S_gone S_straight S_all A_refused A_heardBy N_grounds N_airs N_kinds N_cells N_selves N_cries N_parts S_may S_ways S_echo S_echoes p1 p2 p3 p4 = some res) : Ct l y_Ai_criers b_Ai_criers 7 (some .int) 6 152 G [.ref aA, .int p1, .int p2, .int p3, .int p4] [(aA, .inr (3, [.ref aN, .ref A_draft, .ref aA_images, .ref aA_kept, .ref aS, .ref A_reader, .ref aA_refused, .ref aA_heardBy])), (aA_refused, .inl (gI G, 3, .inl A_refused)), (aA_heardBy, .inl (gI G, 6, .inl A_heardBy)), (aN, .inr (0, [.int N_width, .int N_height, .long N_everywhere, .long N_firstColumn, .long N_lastColumn, .ref aN_grounds, .ref aN_airs, .ref aN_tolds, .ref aN_fees, .ref aN_lets, .int N_makers, .ref aN_kinds, .ref aN_cells, .ref aN_selves, .ref aN_cries, .int N_leaves, .ref aN_parts, .int N_pasts, .ref aN_past])), (aN_grounds, .inl (gJ G, 3, .inr (.inl N_grounds))), (aN_airs, .inl (gJ G, 6, .inr (.inl N_airs))), (aN_kinds, .inl (gI G, 6, .inl N_kinds)), (aN_cells, .inl (gI G, 6, .inl N_cells)), (aN_selves, .inl (gI G, 6, .inl N_selves)), (aN_cries, .inl (gI G, 6, .inl N_cries)), (aN_parts, .inl (gI G, 40, .inl N_parts)), (aS, .inr (2, [.ref S_land, .int S_maker, .int S_loud, .int S_hour, .int S_bought, .int S_gone, .ref aS_may, .ref aS_ways, .ref aS_echo, .ref aS_echoes, .long S_straight, .long S_all])), (aS_may, .inl (gJ G, 21, .inr (.inl S_may))), (aS_ways, .inl (gJ G, 21, .inr (.inl S_ways))), (aS_echo, .inl (gJ G, 21, .inr (.inl S_echo))), (aS_echoes, .inl (gJ G, 21, .inr (.inl S_echoes)))] (some (.int res.1)) [(aA, .inr (3, [.ref aN, .ref A_draft, .ref aA_images, .ref aA_kept, .ref aS, .ref A_reader, .ref aA_refused, .ref aA_heardBy])), (aA_refused, .inl (gI G, 3, .inl (res.2.1))), (aA_heardBy, .inl (gI G, 6, .inl (res.2.2.1))), (aN, .inr (0, [.int N_width, .int N_height, .long N_everywhere, .long N_firstColumn, .long N_lastColumn, .ref aN_grounds, .ref aN_airs, .ref aN_tolds, .ref aN_fees, .ref aN_lets, .int N_makers, .ref aN_kinds, .ref aN_cells, .ref aN_selves, .ref aN_cries, .int N_leaves, .ref aN_parts, .int N_pasts, .ref aN_past])), (aN_grounds, .inl (gJ G, 3, .inr (.inl N_grounds))), (aN_airs, .inl (gJ G, 6, .inr (.inl N_airs))), (aN_kinds, .inl (gI G, 6, .inl N_kinds)), (aN_cells, .inl (gI G, 6, .inl N_cells)), (aN_selves, .inl (gI G, 6, .inl N_selves)), (aN_cries, .inl (gI G, 6, .inl N_cries)), (aN_parts, .inl (gI G, 40, .inl N_parts)), (aS, .inr (2, [.ref (res.2.2.2.1), .int (res.2.2.2.2.1), .int (res.2.2.2.2.2.1), .int (res.2.2.2.2.2.2.1), .int (res.2.2.2.2.2.2.2.1), .int (res.2.2.2.2.2.2.2.2.1), .ref aS_may, .ref aS_ways, .ref aS_echo, .ref aS_echoes, .long (res.2.2.2.2.2.2.2.2.2.2.2.2.2.1), .long (res.2.2.2.2.2.2.2.2.2.2.2.2.2.2)])), (aS_may, .inl (gJ G, 21, .inr (.inl (res.2.2.2.2.2.2.2.2.2.1)))), (aS_ways, .inl (gJ G, 21, .inr (.inl (res.2.2.2.2.2.2.2.2.2.2.1)))), (aS_echo, .inl (gJ G, 21, .inr (.inl (res.2.2.2.2.2.2.2.2.2.2.2.1)))), (aS_echoes, .inl (gJ G, 21, .inr (.inl (res.2.2.2.2.2.2.2.2.2.2.2.2.1))))] := by
  refine Ct.mk (by decide) (Nat.le_of_ble_eq_true rfl) ?_
  intro p e s m args below meth c ls A Q C hE hW hl hQ
  have C : Cx p s args m c meth "LentAir" y_Ai_criers b_Ai_criers 7 (some .int) := C
  have hl : lv_has ls 7 [(0, .ref aA), (1, .int p1), (2, .int p2), (3, .int p3), (4, .int p4)] := hl
  unfold f_Ai_criers at h
  refine lv_aload_n C.1.1 C.1.2.1 d_Ai_criers_0 rfl (lv_at hl 0 rfl) ?_
  refine lv_iload_n C.1.1 C.1.2.1 d_Ai_criers_1 rfl (lv_at hl 1 rfl) ?_
  obtain ⟨x1, hc2, h⟩ := bd_at h
  refine x_callV (ws' := [(aA, .inr (3, [.ref aN, .ref A_draft, .ref aA_images, .ref aA_kept, .ref aS, .ref A_reader, .ref aA_refused, .ref aA_heardBy])), (aA_refused, .inl (gI G, 3, .inl A_refused)), (aA_heardBy, .inl (gI G, 6, .inl A_heardBy)), (aN, .inr (0, [.int N_width, .int N_height, .long N_everywhere, .long N_firstColumn, .long N_lastColumn, .ref aN_grounds, .ref aN_airs, .ref aN_tolds, .ref aN_fees, .ref aN_lets, .int N_makers, .ref aN_kinds, .ref aN_cells, .ref aN_selves, .ref aN_cries, .int N_leaves, .ref aN_parts, .int N_pasts, .ref aN_past])), (aN_grounds, .inl (gJ G, 3, .inr (.inl N_grounds))), (aN_airs, .inl (gJ G, 6, .inr (.inl N_airs))), (aN_kinds, .inl (gI G, 6, .inl N_kinds)), (aN_cells, .inl (gI G, 6, .inl N_cells)), (aN_selves, .inl (gI G, 6, .inl N_selves)), (aN_cries, .inl (gI G, 6, .inl N_cries)), (aN_parts, .inl (gI G, 40, .inl N_parts)), (aS, .inr (2, [.ref S_land, .int S_maker, .int S_loud, .int S_hour, .int S_bought, .int S_gone, .ref aS_may, .ref aS_ways, .ref aS_echo, .ref aS_echoes, .long S_straight, .long S_all])), (aS_may, .inl (gJ G, 21, .inr (.inl S_may))), (aS_ways, .inl (gJ G, 21, .inr (.inl S_ways))), (aS_echo, .inl (gJ G, 21, .inr (.inl S_echo))), (aS_echoes, .inl (gJ G, 21, .inr (.inl S_echoes)))]) (stk := [.int x1]) (rest := []) (As := [.int p1]) (q0 := 0) C hE hW (c_Ai_isMaker l G aA aA_images aA_kept aA_refused aA_heardBy aN aN_grounds aN_airs aN_tolds aN_fees aN_lets aN_kinds aN_cells aN_selves aN_cries aN_parts aN_past A_draft aS A_reader N_width N_height N_everywhere N_firstColumn N_lastColumn N_makers N_leaves N_pasts p1 hc2) cv_Ai_isMaker tw358 hl rfl rfl (Nat.le_of_ble_eq_true rfl) rfl rfl rfl ⟨Nat.le_of_ble_eq_true rfl, Nat.le_of_ble_eq_true rfl⟩ ⟨Nat.zero_le _, Nat.zero_le _⟩ [0, 3] [1, 2, 4, 5, 6, 7, 8, 9, 10, 11, 12, 13, 14, 15] [14, 0, 1, 15, 2, 3, 4, 5, 6, 7, 8, 9, 10, 11, 12, 13] rfl rfl rfl (by decide) rfl rfl rfl rfl d_Ai_criers_2 (fun H locs hW => ?_)
  refine jn_at (P := fun (_ : Unit) => ∀ (H : Heap) (locs : List Loc) (ls : Array Slot), Wd G A s.heap H locs [(aA, .inr (3, [.ref aN, .ref A_draft, .ref aA_images, .ref aA_kept, .ref aS, .ref A_reader, .ref aA_refused, .ref aA_heardBy])), (aA_refused, .inl (gI G, 3, .inl A_refused)), (aA_heardBy, .inl (gI G, 6, .inl A_heardBy)), (aN, .inr (0, [.int N_width, .int N_height, .long N_everywhere, .long N_firstColumn, .long N_lastColumn, .ref aN_grounds, .ref aN_airs, .ref aN_tolds, .ref aN_fees, .ref aN_lets, .int N_makers, .ref aN_kinds, .ref aN_cells, .ref aN_selves, .ref aN_cries, .int N_leaves, .ref aN_parts, .int N_pasts, .ref aN_past])), (aN_grounds, .inl (gJ G, 3, .inr (.inl N_grounds))), (aN_airs, .inl (gJ G, 6, .inr (.inl N_airs))), (aN_kinds, .inl (gI G, 6, .inl N_kinds)), (aN_cells, .inl (gI G, 6, .inl N_cells)), (aN_selves, .inl (gI G, 6, .inl N_selves)), (aN_cries, .inl (gI G, 6, .inl N_cries)), (aN_parts, .inl (gI G, 40, .inl N_parts)), (aS, .inr (2, [.ref S_land, .int S_maker, .int S_loud, .int S_hour, .int S_bought, .int S_gone, .ref aS_may, .ref aS_ways, .ref aS_echo, .ref aS_echoes, .long S_straight, .long S_all])), (aS_may, .inl (gJ G, 21, .inr (.inl S_may))), (aS_ways, .inl (gJ G, 21, .inr (.inl S_ways))), (aS_echo, .inl (gJ G, 21, .inr (.inl S_echo))), (aS_echoes, .inl (gJ G, 21, .inr (.inl S_echoes)))] → lv_has ls 7 [(0, .ref aA)] → W p l e (RM 6 152) s m args below meth c H locs 0 0 Q (F0 m 31 ls [])) h ?_ ?_
  · skip
    intro _ h
    intro H locs ls hW hl
    refine lv_aload_n C.1.1 C.1.2.1 d_Ai_criers_31 rfl (lv_at hl 0 rfl) ?_
    refine lv_bipush (v := (-2)) C.1.1 C.1.2.1 d_Ai_criers_32 (by decide) ?_
    obtain ⟨⟨x3, x4⟩, hc5, h⟩ := bd_at h
    refine x_callV (ws' := [(aA, .inr (3, [.ref aN, .ref A_draft, .ref aA_images, .ref aA_kept, .ref aS, .ref A_reader, .ref aA_refused, .ref aA_heardBy])), (aA_refused, .inl (gI G, 3, .inl x4)), (aA_heardBy, .inl (gI G, 6, .inl A_heardBy)), (aN, .inr (0, [.int N_width, .int N_height, .long N_everywhere, .long N_firstColumn, .long N_lastColumn, .ref aN_grounds, .ref aN_airs, .ref aN_tolds, .ref aN_fees, .ref aN_lets, .int N_makers, .ref aN_kinds, .ref aN_cells, .ref aN_selves, .ref aN_cries, .int N_leaves, .ref aN_parts, .int N_pasts, .ref aN_past])), (aN_grounds, .inl (gJ G, 3, .inr (.inl N_grounds))), (aN_airs, .inl (gJ G, 6, .inr (.inl N_airs))), (aN_kinds, .inl (gI G, 6, .inl N_kinds)), (aN_cells, .inl (gI G, 6, .inl N_cells)), (aN_selves, .inl (gI G, 6, .inl N_selves)), (aN_cries, .inl (gI G, 6, .inl N_cries)), (aN_parts, .inl (gI G, 40, .inl N_parts)), (aS, .inr (2, [.ref S_land, .int S_maker, .int S_loud, .int S_hour, .int S_bought, .int S_gone, .ref aS_may, .ref aS_ways, .ref aS_echo, .ref aS_echoes, .long S_straight, .long S_all])), (aS_may, .inl (gJ G, 21, .inr (.inl S_may))), (aS_ways, .inl (gJ G, 21, .inr (.inl S_ways))), (aS_echo, .inl (gJ G, 21, .inr (.inl S_echo))), (aS_echoes, .inl (gJ G, 21, .inr (.inl S_echoes)))]) (stk := [.int x3]) (rest := []) (As := [.int (-2)]) (q0 := 0) C hE hW (c_Ai_refuse l G aA aA_images aA_kept aA_refused aA_heardBy aN A_draft aS A_reader A_refused (-2) hc5) cv_Ai_refuse tw308 hl rfl rfl (Nat.le_of_ble_eq_true rfl) rfl rfl rfl ⟨Nat.le_of_ble_eq_true rfl, Nat.le_of_ble_eq_true rfl⟩ ⟨Nat.zero_le _, Nat.zero_le _⟩ [0, 1] [2, 3, 4, 5, 6, 7, 8, 9, 10, 11, 12, 13, 14, 15] [14, 15, 0, 1, 2, 3, 4, 5, 6, 7, 8, 9, 10, 11, 12, 13] rfl rfl rfl (by decide) rfl rfl rfl rfl d_Ai_criers_34 (fun H locs hW => ?_)
    obtain rfl := Option.some.inj h
    exact x_iret C hW rfl rfl hQ d_Ai_criers_37
  · intro J31 hJ31 h
    refine lv_if_eq (tgt := 31) C.1.1 C.1.2.1 d_Ai_criers_5 (by decide) (fun cc => ?_) (fun cc => ?_)
    · replace h := it_t cc h
      exact hJ31 _ h _ _ _ hW (lv_sub hl [0] rfl)
    · replace h := it_f cc h
      refine lv_aload_n C.1.1 C.1.2.1 d_Ai_criers_8 rfl (lv_at hl 0 rfl) ?_
      refine lv_iload_n C.1.1 C.1.2.1 d_Ai_criers_9 rfl (lv_at hl 2 rfl) ?_
      obtain ⟨x6, hc7, h⟩ := bd_at h
      refine x_callV (ws' := [(aA, .inr (3, [.ref aN, .ref A_draft, .ref aA_images, .ref aA_kept, .ref aS, .ref A_reader, .ref aA_refused, .ref aA_heardBy])), (aA_refused, .inl (gI G, 3, .inl A_refused)), (aA_heardBy, .inl (gI G, 6, .inl A_heardBy)), (aN, .inr (0, [.int N_width, .int N_height, .long N_everywhere, .long N_firstColumn, .long N_lastColumn, .ref aN_grounds, .ref aN_airs, .ref aN_tolds, .ref aN_fees, .ref aN_lets, .int N_makers, .ref aN_kinds, .ref aN_cells, .ref aN_selves, .ref aN_cries, .int N_leaves, .ref aN_parts, .int N_pasts, .ref aN_past])), (aN_grounds, .inl (gJ G, 3, .inr (.inl N_grounds))), (aN_airs, .inl (gJ G, 6, .inr (.inl N_airs))), (aN_kinds, .inl (gI G, 6, .inl N_kinds)), (aN_cells, .inl (gI G, 6, .inl N_cells)), (aN_selves, .inl (gI G, 6, .inl N_selves)), (aN_cries, .inl (gI G, 6, .inl N_cries)), (aN_parts, .inl (gI G, 40, .inl N_parts)), (aS, .inr (2, [.ref S_land, .int S_maker, .int S_loud, .int S_hour, .int S_bought, .int S_gone, .ref aS_may, .ref aS_ways, .ref aS_echo, .ref aS_echoes, .long S_straight, .long S_all])), (aS_may, .inl (gJ G, 21, .inr (.inl S_may))), (aS_ways, .inl (gJ G, 21, .inr (.inl S_ways))), (aS_echo, .inl (gJ G, 21, .inr (.inl S_echo))), (aS_echoes, .inl (gJ G, 21, .inr (.inl S_echoes)))]) (stk := [.int x6]) (rest := []) (As := [.int p2]) (q0 := 0) C hE hW (c_Ai_isMaker l G aA aA_images aA_kept aA_refused aA_heardBy aN aN_grounds aN_airs aN_tolds aN_fees aN_lets aN_kinds aN_cells aN_selves aN_cries aN_parts aN_past A_draft aS A_reader N_width N_height N_everywhere N_firstColumn N_lastColumn N_makers N_leaves N_pasts p2 hc7) cv_Ai_isMaker tw358 hl rfl rfl (Nat.le_of_ble_eq_true rfl) rfl rfl rfl ⟨Nat.le_of_ble_eq_true rfl, Nat.le_of_ble_eq_true rfl⟩ ⟨Nat.zero_le _, Nat.zero_le _⟩ [0, 3] [1, 2, 4, 5, 6, 7, 8, 9, 10, 11, 12, 13, 14, 15] [14, 0, 1, 15, 2, 3, 4, 5, 6, 7, 8, 9, 10, 11, 12, 13] rfl rfl rfl (by decide) rfl rfl rfl rfl d_Ai_criers_10 (fun H locs hW => ?_)
      refine lv_if_eq (tgt := 31) C.1.1 C.1.2.1 d_Ai_criers_13 (by decide) (fun cc => ?_) (fun cc => ?_)
      · replace h := it_t cc h
        exact hJ31 _ h _ _ _ hW (lv_sub hl [0] rfl)
      · replace h := it_f cc h
        refine lv_iload_n C.1.1 C.1.2.1 d_Ai_criers_16 rfl (lv_at hl 3 rfl) ?_
        obtain ⟨x8, hc9, h⟩ := bd_at h
        refine x_callS (ws' := [(aA, .inr (3, [.ref aN, .ref A_draft, .ref aA_images, .ref aA_kept, .ref aS, .ref A_reader, .ref aA_refused, .ref aA_heardBy])), (aA_refused, .inl (gI G, 3, .inl A_refused)), (aA_heardBy, .inl (gI G, 6, .inl A_heardBy)), (aN, .inr (0, [.int N_width, .int N_height, .long N_everywhere, .long N_firstColumn, .long N_lastColumn, .ref aN_grounds, .ref aN_airs, .ref aN_tolds, .ref aN_fees, .ref aN_lets, .int N_makers, .ref aN_kinds, .ref aN_cells, .ref aN_selves, .ref aN_cries, .int N_leaves, .ref aN_parts, .int N_pasts, .ref aN_past])), (aN_grounds, .inl (gJ G, 3, .inr (.inl N_grounds))), (aN_airs, .inl (gJ G, 6, .inr (.inl N_airs))), (aN_kinds, .inl (gI G, 6, .inl N_kinds)), (aN_cells, .inl (gI G, 6, .inl N_cells)), (aN_selves, .inl (gI G, 6, .inl N_selves)), (aN_cries, .inl (gI G, 6, .inl N_cries)), (aN_parts, .inl (gI G, 40, .inl N_parts)), (aS, .inr (2, [.ref S_land, .int S_maker, .int S_loud, .int S_hour, .int S_bought, .int S_gone, .ref aS_may, .ref aS_ways, .ref aS_echo, .ref aS_echoes, .long S_straight, .long S_all])), (aS_may, .inl (gJ G, 21, .inr (.inl S_may))), (aS_ways, .inl (gJ G, 21, .inr (.inl S_ways))), (aS_echo, .inl (gJ G, 21, .inr (.inl S_echo))), (aS_echoes, .inl (gJ G, 21, .inr (.inl S_echoes)))]) (stk := [.int x8]) (rest := []) (As := [.int p3]) C hE hW (c_Ai_isHour l G p3 hc9) cv_Ai_isHour tw362 hl rfl rfl (Nat.le_of_ble_eq_true rfl) ⟨Nat.le_of_ble_eq_true rfl, Nat.le_of_ble_eq_true rfl⟩ ⟨Nat.zero_le _, Nat.zero_le _⟩ [] [0, 1, 2, 3, 4, 5, 6, 7, 8, 9, 10, 11, 12, 13, 14, 15] [0, 1, 2, 3, 4, 5, 6, 7, 8, 9, 10, 11, 12, 13, 14, 15] rfl rfl rfl (by decide) rfl rfl rfl rfl d_Ai_criers_17 (fun H locs hW => ?_)
        refine lv_if_eq (tgt := 31) C.1.1 C.1.2.1 d_Ai_criers_20 (by decide) (fun cc => ?_) (fun cc => ?_)
        · replace h := it_t cc h
          exact hJ31 _ h _ _ _ hW (lv_sub hl [0] rfl)
        · replace h := it_f cc h
          refine lv_iload C.1.1 C.1.2.1 d_Ai_criers_23 (lv_at hl 4 rfl) ?_
          obtain ⟨x10, hc11, h⟩ := bd_at h
          refine x_callS (ws' := [(aA, .inr (3, [.ref aN, .ref A_draft, .ref aA_images, .ref aA_kept, .ref aS, .ref A_reader, .ref aA_refused, .ref aA_heardBy])), (aA_refused, .inl (gI G, 3, .inl A_refused)), (aA_heardBy, .inl (gI G, 6, .inl A_heardBy)), (aN, .inr (0, [.int N_width, .int N_height, .long N_everywhere, .long N_firstColumn, .long N_lastColumn, .ref aN_grounds, .ref aN_airs, .ref aN_tolds, .ref aN_fees, .ref aN_lets, .int N_makers, .ref aN_kinds, .ref aN_cells, .ref aN_selves, .ref aN_cries, .int N_leaves, .ref aN_parts, .int N_pasts, .ref aN_past])), (aN_grounds, .inl (gJ G, 3, .inr (.inl N_grounds))), (aN_airs, .inl (gJ G, 6, .inr (.inl N_airs))), (aN_kinds, .inl (gI G, 6, .inl N_kinds)), (aN_cells, .inl (gI G, 6, .inl N_cells)), (aN_selves, .inl (gI G, 6, .inl N_selves)), (aN_cries, .inl (gI G, 6, .inl N_cries)), (aN_parts, .inl (gI G, 40, .inl N_parts)), (aS, .inr (2, [.ref S_land, .int S_maker, .int S_loud, .int S_hour, .int S_bought, .int S_gone, .ref aS_may, .ref aS_ways, .ref aS_echo, .ref aS_echoes, .long S_straight, .long S_all])), (aS_may, .inl (gJ G, 21, .inr (.inl S_may))), (aS_ways, .inl (gJ G, 21, .inr (.inl S_ways))), (aS_echo, .inl (gJ G, 21, .inr (.inl S_echo))), (aS_echoes, .inl (gJ G, 21, .inr (.inl S_echoes)))]) (stk := [.int x10]) (rest := []) (As := [.int p4]) C hE hW (c_Ai_isEither l G p4 hc11) cv_Ai_isEither tw690 hl rfl rfl (Nat.le_of_ble_eq_true rfl) ⟨Nat.le_of_ble_eq_true rfl, Nat.le_of_ble_eq_true rfl⟩ ⟨Nat.zero_le _, Nat.zero_le _⟩ [] [0, 1, 2, 3, 4, 5, 6, 7, 8, 9, 10, 11, 12, 13, 14, 15] [0, 1, 2, 3, 4, 5, 6, 7, 8, 9, 10, 11, 12, 13, 14, 15] rfl rfl rfl (by decide) rfl rfl rfl rfl d_Ai_criers_25 (fun H locs hW => ?_)
          refine lv_if_ne (tgt := 38) C.1.1 C.1.2.1 d_Ai_criers_28 (by decide) (fun cc => ?_) (fun cc => ?_)
          · replace h := it_f cc h
            refine lv_iload_n C.1.1 C.1.2.1 d_Ai_criers_38 rfl (lv_at hl 1 rfl) ?_
            refine lv_iload_n C.1.1 C.1.2.1 d_Ai_criers_39 rfl (lv_at hl 2 rfl) ?_
            refine lv_icmp_ne (tgt := 54) C.1.1 C.1.2.1 d_Ai_criers_40 (by decide) (fun cc => ?_) (fun cc => ?_)
            · replace h := it_f cc h
              refine lv_aload_n C.1.1 C.1.2.1 d_Ai_criers_54 rfl (lv_at hl 0 rfl) ?_
              refine lv_iload_n C.1.1 C.1.2.1 d_Ai_criers_55 rfl (lv_at hl 3 rfl) ?_
              obtain ⟨⟨x12, x13, x14, x15, x16, x17, x18, x19, x20, x21, x22, x23, x24⟩, hc25, h⟩ := bd_at h
              refine x_callV (ws' := [(aA, .inr (3, [.ref aN, .ref A_draft, .ref aA_images, .ref aA_kept, .ref aS, .ref A_reader, .ref aA_refused, .ref aA_heardBy])), (aA_refused, .inl (gI G, 3, .inl A_refused)), (aA_heardBy, .inl (gI G, 6, .inl x12)), (aN, .inr (0, [.int N_width, .int N_height, .long N_everywhere, .long N_firstColumn, .long N_lastColumn, .ref aN_grounds, .ref aN_airs, .ref aN_tolds, .ref aN_fees, .ref aN_lets, .int N_makers, .ref aN_kinds, .ref aN_cells, .ref aN_selves, .ref aN_cries, .int N_leaves, .ref aN_parts, .int N_pasts, .ref aN_past])), (aN_grounds, .inl (gJ G, 3, .inr (.inl N_grounds))), (aN_airs, .inl (gJ G, 6, .inr (.inl N_airs))), (aN_kinds, .inl (gI G, 6, .inl N_kinds)), (aN_cells, .inl (gI G, 6, .inl N_cells)), (aN_selves, .inl (gI G, 6, .inl N_selves)), (aN_cries, .inl (gI G, 6, .inl N_cries)), (aN_parts, .inl (gI G, 40, .inl N_parts)), (aS, .inr (2, [.ref x13, .int x14, .int x15, .int x16, .int x17, .int x18, .ref aS_may, .ref aS_ways, .ref aS_echo, .ref aS_echoes, .long x23, .long x24])), (aS_may, .inl (gJ G, 21, .inr (.inl x19))), (aS_ways, .inl (gJ G, 21, .inr (.inl x20))), (aS_echo, .inl (gJ G, 21, .inr (.inl x21))), (aS_echoes, .inl (gJ G, 21, .inr (.inl x22)))]) (stk := []) (rest := []) (As := [.int p3]) (q0 := 0) C hE hW (c_Ai_listen l G aA aA_images aA_kept aA_refused aA_heardBy aN aN_grounds aN_airs aN_tolds aN_fees aN_lets aN_kinds aN_cells aN_selves aN_cries aN_parts aN_past aS aS_may aS_ways aS_echo aS_echoes A_draft A_reader N_width N_height N_everywhere N_firstColumn N_lastColumn N_makers N_leaves N_pasts S_land S_maker S_loud S_hour S_bought S_gone S_straight S_all A_heardBy N_grounds N_airs N_kinds N_cells N_selves N_cries N_parts S_may S_ways S_echo S_echoes p3 hc25) cv_Ai_listen tw728 hl rfl rfl (Nat.le_of_ble_eq_true rfl) rfl rfl rfl ⟨Nat.le_of_ble_eq_true rfl, Nat.le_of_ble_eq_true rfl⟩ ⟨Nat.zero_le _, Nat.zero_le _⟩ [0, 2, 3, 4, 5, 6, 7, 8, 9, 10, 11, 12, 13, 14, 15] [1] [1, 0, 2, 3, 4, 5, 6, 7, 8, 9, 10, 11, 12, 13, 14, 15] rfl rfl rfl (by decide) rfl rfl rfl rfl d_Ai_criers_56 (fun H locs hW => ?_)
              refine lv_iconst (v := 1) C.1.1 C.1.2.1 d_Ai_criers_59 (by decide) ?_
              refine lv_iload_n C.1.1 C.1.2.1 d_Ai_criers_60 rfl (lv_at hl 2 rfl) ?_
              refine lv_ishl C.1.1 C.1.2.1 d_Ai_criers_61 ?_
              refine lv_topi (fun x26 ex26 => ?_)
              replace h := lt_at ex26 h
              refine lv_istore (lv' := [(5, .int x26), (0, .ref aA), (1, .int p1), (2, .int p2), (3, .int p3), (4, .int p4)]) C.1.1 C.1.2.1 d_Ai_criers_62 hl (by decide) rfl (fun ls hl => ?_)
              refine lv_iconst (v := 2) C.1.1 C.1.2.1 d_Ai_criers_64 (by decide) ?_
              refine lv_istore (lv' := [(6, .int 2), (5, .int x26), (0, .ref aA), (1, .int p1), (2, .int p2), (3, .int p3), (4, .int p4)]) C.1.1 C.1.2.1 d_Ai_criers_65 hl (by decide) rfl (fun ls hl => ?_)
              refine jn_at (P := fun ((x27, x28) : Int32 × Int32) => ∀ (H : Heap) (locs : List Loc) (ls : Array Slot), Wd G A s.heap H locs [(aA, .inr (3, [.ref aN, .ref A_draft, .ref aA_images, .ref aA_kept, .ref aS, .ref A_reader, .ref aA_refused, .ref aA_heardBy])), (aA_refused, .inl (gI G, 3, .inl A_refused)), (aA_heardBy, .inl (gI G, 6, .inl x12)), (aN, .inr (0, [.int N_width, .int N_height, .long N_everywhere, .long N_firstColumn, .long N_lastColumn, .ref aN_grounds, .ref aN_airs, .ref aN_tolds, .ref aN_fees, .ref aN_lets, .int N_makers, .ref aN_kinds, .ref aN_cells, .ref aN_selves, .ref aN_cries, .int N_leaves, .ref aN_parts, .int N_pasts, .ref aN_past])), (aN_grounds, .inl (gJ G, 3, .inr (.inl N_grounds))), (aN_airs, .inl (gJ G, 6, .inr (.inl N_airs))), (aN_kinds, .inl (gI G, 6, .inl N_kinds)), (aN_cells, .inl (gI G, 6, .inl N_cells)), (aN_selves, .inl (gI G, 6, .inl N_selves)), (aN_cries, .inl (gI G, 6, .inl N_cries)), (aN_parts, .inl (gI G, 40, .inl N_parts)), (aS, .inr (2, [.ref x13, .int x14, .int x15, .int x16, .int x17, .int x18, .ref aS_may, .ref aS_ways, .ref aS_echo, .ref aS_echoes, .long x23, .long x24])), (aS_may, .inl (gJ G, 21, .inr (.inl x19))), (aS_ways, .inl (gJ G, 21, .inr (.inl x20))), (aS_echo, .inl (gJ G, 21, .inr (.inl x21))), (aS_echoes, .inl (gJ G, 21, .inr (.inl x22)))] → lv_has ls 7 [(0, .ref aA), (1, .int p1), (4, .int p4), (5, .int x27), (6, .int x28)] → W p l e (RM 6 152) s m args below meth c H locs 0 0 Q (F0 m 91 ls [])) h ?_ ?_
              · skip
                intro x h
                obtain ⟨x27, x28⟩ := x
                intro H locs ls hW hl
                refine lv_iload C.1.1 C.1.2.1 d_Ai_criers_91 (lv_at hl 2 rfl) ?_
                refine lv_if_ne (tgt := 101) C.1.1 C.1.2.1 d_Ai_criers_93 (by decide) (fun cc => ?_) (fun cc => ?_)
                · replace h := it_f cc h
                  refine lv_aload_n C.1.1 C.1.2.1 d_Ai_criers_101 rfl (lv_at hl 0 rfl) ?_
                  refine x_get C hE hW fl_Ai_47 0 rfl rfl d_Ai_criers_102 ?_
                  refine lv_iload_n C.1.1 C.1.2.1 d_Ai_criers_105 rfl (lv_at hl 1 rfl) ?_
                  obtain ⟨hg, h⟩ := gd_at h
                  refine x_iald C hE hW 2 rfl (inB_in hg) d_Ai_criers_106 ?_
                  refine lv_iload C.1.1 C.1.2.1 d_Ai_criers_107 (lv_at hl 3 rfl) ?_
                  refine lv_iand C.1.1 C.1.2.1 d_Ai_criers_109 ?_
                  obtain ⟨x29, hc30, h⟩ := bd_at h
                  refine x_callS (ws' := [(aA, .inr (3, [.ref aN, .ref A_draft, .ref aA_images, .ref aA_kept, .ref aS, .ref A_reader, .ref aA_refused, .ref aA_heardBy])), (aA_refused, .inl (gI G, 3, .inl A_refused)), (aA_heardBy, .inl (gI G, 6, .inl x12)), (aN, .inr (0, [.int N_width, .int N_height, .long N_everywhere, .long N_firstColumn, .long N_lastColumn, .ref aN_grounds, .ref aN_airs, .ref aN_tolds, .ref aN_fees, .ref aN_lets, .int N_makers, .ref aN_kinds, .ref aN_cells, .ref aN_selves, .ref aN_cries, .int N_leaves, .ref aN_parts, .int N_pasts, .ref aN_past])), (aN_grounds, .inl (gJ G, 3, .inr (.inl N_grounds))), (aN_airs, .inl (gJ G, 6, .inr (.inl N_airs))), (aN_kinds, .inl (gI G, 6, .inl N_kinds)), (aN_cells, .inl (gI G, 6, .inl N_cells)), (aN_selves, .inl (gI G, 6, .inl N_selves)), (aN_cries, .inl (gI G, 6, .inl N_cries)), (aN_parts, .inl (gI G, 40, .inl N_parts)), (aS, .inr (2, [.ref x13, .int x14, .int x15, .int x16, .int x17, .int x18, .ref aS_may, .ref aS_ways, .ref aS_echo, .ref aS_echoes, .long x23, .long x24])), (aS_may, .inl (gJ G, 21, .inr (.inl x19))), (aS_ways, .inl (gJ G, 21, .inr (.inl x20))), (aS_echo, .inl (gJ G, 21, .inr (.inl x21))), (aS_echoes, .inl (gJ G, 21, .inr (.inl x22)))]) (stk := [.int x29]) (rest := []) (As := [.int ((x12 p1.toNatClampNeg) &&& x27)]) C hE hW (c_Ai_leastOf l G ((x12 p1.toNatClampNeg) &&& x27) hc30) cv_Ai_leastOf tw732 hl rfl rfl (Nat.le_of_ble_eq_true rfl) ⟨Nat.le_of_ble_eq_true rfl, Nat.le_of_ble_eq_true rfl⟩ ⟨Nat.zero_le _, Nat.zero_le _⟩ [] [0, 1, 2, 3, 4, 5, 6, 7, 8, 9, 10, 11, 12, 13, 14, 15] [0, 1, 2, 3, 4, 5, 6, 7, 8, 9, 10, 11, 12, 13, 14, 15] rfl rfl rfl (by decide) rfl rfl rfl rfl d_Ai_criers_110 (fun H locs hW => ?_)
                  obtain rfl := Option.some.inj h
                  exact x_iret C hW rfl rfl hQ d_Ai_criers_113
                · replace h := it_t cc h
                  refine lv_iload C.1.1 C.1.2.1 d_Ai_criers_96 (lv_at hl 4 rfl) ?_
                  refine lv_goto (tgt := 113) C.1.1 C.1.2.1 d_Ai_criers_98 (by decide) ?_
                  obtain rfl := Option.some.inj h
                  exact x_iret C hW rfl rfl hQ d_Ai_criers_113
              · intro J91 hJ91 h
                refine lp_at (P := fun ((x31, x32) : Int32 × Int32) => ∀ (H : Heap) (locs : List Loc) (ls : Array Slot), Wd G A s.heap H locs [(aA, .inr (3, [.ref aN, .ref A_draft, .ref aA_images, .ref aA_kept, .ref aS, .ref A_reader, .ref aA_refused, .ref aA_heardBy])), (aA_refused, .inl (gI G, 3, .inl A_refused)), (aA_heardBy, .inl (gI G, 6, .inl x12)), (aN, .inr (0, [.int N_width, .int N_height, .long N_everywhere, .long N_firstColumn, .long N_lastColumn, .ref aN_grounds, .ref aN_airs, .ref aN_tolds, .ref aN_fees, .ref aN_lets, .int N_makers, .ref aN_kinds, .ref aN_cells, .ref aN_selves, .ref aN_cries, .int N_leaves, .ref aN_parts, .int N_pasts, .ref aN_past])), (aN_grounds, .inl (gJ G, 3, .inr (.inl N_grounds))), (aN_airs, .inl (gJ G, 6, .inr (.inl N_airs))), (aN_kinds, .inl (gI G, 6, .inl N_kinds)), (aN_cells, .inl (gI G, 6, .inl N_cells)), (aN_selves, .inl (gI G, 6, .inl N_selves)), (aN_cries, .inl (gI G, 6, .inl N_cries)), (aN_parts, .inl (gI G, 40, .inl N_parts)), (aS, .inr (2, [.ref x13, .int x14, .int x15, .int x16, .int x17, .int x18, .ref aS_may, .ref aS_ways, .ref aS_echo, .ref aS_echoes, .long x23, .long x24])), (aS_may, .inl (gJ G, 21, .inr (.inl x19))), (aS_ways, .inl (gJ G, 21, .inr (.inl x20))), (aS_echo, .inl (gJ G, 21, .inr (.inl x21))), (aS_echoes, .inl (gJ G, 21, .inr (.inl x22)))] → lv_has ls 7 [(0, .ref aA), (1, .int p1), (4, .int p4), (5, .int x31), (6, .int x32)] → W p l e (RM 6 152) s m args below meth c H locs 0 0 Q (F0 m 67 ls [])) ?_ FU _ h _ _ _ hW (lv_sub hl [2, 3, 6, 1, 0] rfl)
                clear h hl hW
                intro rec67 ih67
                intro x h
                obtain ⟨x31, x32⟩ := x
                unfold f_Ai_criers_L67 at h
                intro H locs ls hW hl
                refine lv_iload C.1.1 C.1.2.1 d_Ai_criers_67 (lv_at hl 4 rfl) ?_
                refine lv_aload_n C.1.1 C.1.2.1 d_Ai_criers_69 rfl (lv_at hl 0 rfl) ?_
                refine x_get C hE hW fl_Ai_12 0 rfl rfl d_Ai_criers_70 ?_
                refine x_get C hE hW fl_Ai_80 3 rfl rfl d_Ai_criers_73 ?_
                refine lv_icmp_gt (tgt := 128) C.1.1 C.1.2.1 d_Ai_criers_76 (by decide) (fun cc => ?_) (fun cc => ?_)
                · replace h := it_t cc h
                  refine lv_iconst (v := (-1)) C.1.1 C.1.2.1 d_Ai_criers_128 (by decide) ?_
                  obtain rfl := Option.some.inj h
                  exact x_iret C hW rfl rfl hQ d_Ai_criers_129
                · replace h := it_f cc h
                  refine lv_aload_n C.1.1 C.1.2.1 d_Ai_criers_79 rfl (lv_at hl 0 rfl) ?_
                  refine x_get C hE hW fl_Ai_47 0 rfl rfl d_Ai_criers_80 ?_
                  refine lv_iload_n C.1.1 C.1.2.1 d_Ai_criers_83 rfl (lv_at hl 1 rfl) ?_
                  obtain ⟨hg, h⟩ := gd_at h
                  refine x_iald C hE hW 2 rfl (inB_in hg) d_Ai_criers_84 ?_
                  refine lv_iload C.1.1 C.1.2.1 d_Ai_criers_85 (lv_at hl 3 rfl) ?_
                  refine lv_iand C.1.1 C.1.2.1 d_Ai_criers_87 ?_
                  refine lv_if_eq (tgt := 114) C.1.1 C.1.2.1 d_Ai_criers_88 (by decide) (fun cc => ?_) (fun cc => ?_)
                  · replace h := it_t cc h
                    refine lv_aload_n C.1.1 C.1.2.1 d_Ai_criers_114 rfl (lv_at hl 0 rfl) ?_
                    refine lv_iload C.1.1 C.1.2.1 d_Ai_criers_115 (lv_at hl 3 rfl) ?_
                    obtain ⟨x33, hc34, h⟩ := bd_at h
                    refine x_callV (ws' := [(aA, .inr (3, [.ref aN, .ref A_draft, .ref aA_images, .ref aA_kept, .ref aS, .ref A_reader, .ref aA_refused, .ref aA_heardBy])), (aA_refused, .inl (gI G, 3, .inl A_refused)), (aA_heardBy, .inl (gI G, 6, .inl x12)), (aN, .inr (0, [.int N_width, .int N_height, .long N_everywhere, .long N_firstColumn, .long N_lastColumn, .ref aN_grounds, .ref aN_airs, .ref aN_tolds, .ref aN_fees, .ref aN_lets, .int N_makers, .ref aN_kinds, .ref aN_cells, .ref aN_selves, .ref aN_cries, .int N_leaves, .ref aN_parts, .int N_pasts, .ref aN_past])), (aN_grounds, .inl (gJ G, 3, .inr (.inl N_grounds))), (aN_airs, .inl (gJ G, 6, .inr (.inl N_airs))), (aN_kinds, .inl (gI G, 6, .inl N_kinds)), (aN_cells, .inl (gI G, 6, .inl N_cells)), (aN_selves, .inl (gI G, 6, .inl N_selves)), (aN_cries, .inl (gI G, 6, .inl N_cries)), (aN_parts, .inl (gI G, 40, .inl N_parts)), (aS, .inr (2, [.ref x13, .int x14, .int x15, .int x16, .int x17, .int x18, .ref aS_may, .ref aS_ways, .ref aS_echo, .ref aS_echoes, .long x23, .long x24])), (aS_may, .inl (gJ G, 21, .inr (.inl x19))), (aS_ways, .inl (gJ G, 21, .inr (.inl x20))), (aS_echo, .inl (gJ G, 21, .inr (.inl x21))), (aS_echoes, .inl (gJ G, 21, .inr (.inl x22)))]) (stk := [.int x33]) (rest := []) (As := [.int x31]) (q0 := 0) C hE hW (c_Ai_behind l G aA aA_images aA_kept aA_refused aA_heardBy aN aN_grounds aN_airs aN_tolds aN_fees aN_lets aN_kinds aN_cells aN_selves aN_cries aN_parts aN_past A_draft aS A_reader N_width N_height N_everywhere N_firstColumn N_lastColumn N_makers N_leaves N_pasts x12 x31 hc34) cv_Ai_behind tw735 hl rfl rfl (Nat.le_of_ble_eq_true rfl) rfl rfl rfl ⟨Nat.le_of_ble_eq_true rfl, Nat.le_of_ble_eq_true rfl⟩ ⟨Nat.zero_le _, Nat.zero_le _⟩ [0, 2, 3] [1, 4, 5, 6, 7, 8, 9, 10, 11, 12, 13, 14, 15] [13, 0, 14, 15, 1, 2, 3, 4, 5, 6, 7, 8, 9, 10, 11, 12] rfl rfl rfl (by decide) rfl rfl rfl rfl d_Ai_criers_117 (fun H locs hW => ?_)
                    refine lv_istore (lv' := [(5, .int x33), (0, .ref aA), (1, .int p1), (4, .int p4), (6, .int x32)]) C.1.1 C.1.2.1 d_Ai_criers_120 hl (by decide) rfl (fun ls hl => ?_)
                    obtain ⟨x35, ex35⟩ : ∃ y : Int32, y = x32 + 1 := ⟨_, rfl⟩
                    replace h := lt_at ex35 h
                    refine lv_iinc (v := x35) (lv' := [(6, .int x35), (5, .int x33), (0, .ref aA), (1, .int p1), (4, .int p4)]) C.1.1 C.1.2.1 d_Ai_criers_122 hl (k := 4) rfl (by rw [ex35]; rfl) (by decide) rfl (fun ls hl => ?_)
                    refine lv_goto (tgt := 67) C.1.1 C.1.2.1 d_Ai_criers_125 (by decide) ?_
                    exact ih67 _ h _ _ _ hW (lv_sub hl [2, 3, 4, 1, 0] rfl)
                  · replace h := it_f cc h
                    exact hJ91 _ h _ _ _ hW (lv_sub hl [0, 1, 2, 3, 4] rfl)
            · replace h := it_t cc h
              refine lv_iload C.1.1 C.1.2.1 d_Ai_criers_43 (lv_at hl 4 rfl) ?_
              refine lv_if_ne (tgt := 52) C.1.1 C.1.2.1 d_Ai_criers_45 (by decide) (fun cc => ?_) (fun cc => ?_)
              · replace h := it_f cc h
                refine lv_iconst (v := (-1)) C.1.1 C.1.2.1 d_Ai_criers_52 (by decide) ?_
                obtain rfl := Option.some.inj h
                exact x_iret C hW rfl rfl hQ d_Ai_criers_53
              · replace h := it_t cc h
                refine lv_iconst (v := 1) C.1.1 C.1.2.1 d_Ai_criers_48 (by decide) ?_
                refine lv_goto (tgt := 53) C.1.1 C.1.2.1 d_Ai_criers_49 (by decide) ?_
                obtain rfl := Option.some.inj h
                exact x_iret C hW rfl rfl hQ d_Ai_criers_53
          · replace h := it_t cc h
            exact hJ31 _ h _ _ _ hW (lv_sub hl [0] rfl)
set_option maxHeartbeats 4000000 in
set_option maxRecDepth 100000 in
theorem c_Ai_let (l : Launch) (G : Gl) (aA : Nat) (aA_images : Nat) (aA_kept : Nat) (aA_refused : Nat) (aA_heardBy : Nat) (aN : Nat) (aN_grounds : Nat) (aN_airs : Nat) (aN_tolds : Nat) (aN_fees : Nat) (aN_lets : Nat) (aN_kinds : Nat) (aN_cells : Nat) (aN_selves : Nat) (aN_cries : Nat) (aN_parts : Nat) (aN_past : Nat) (A_draft : Nat) (A_sound : Nat) (A_reader : Nat) (N_width : Int32) (N_height : Int32) (N_everywhere : Int64) (N_firstColumn : Int64) (N_lastColumn : Int64) (N_makers : Int32) (N_leaves : Int32) (N_pasts : Int32) (A_refused : Nat → Int32) (N_lets : Nat → Int32) (p1 : Int32) (p2 : Int32) {res : Int32 × (Nat → Int32) × (Nat → Int32)} (h : f_Ai_let A_refused N_lets p1 p2 = some res) : Ct l y_Ai_let b_Ai_let 4 (some .int) 2 44 G [.ref aA, .int p1, .int p2] [(aA, .inr (3, [.ref aN, .ref A_draft, .ref aA_images, .ref aA_kept, .ref A_sound, .ref A_reader, .ref aA_refused, .ref aA_heardBy])), (aA_refused, .inl (gI G, 3, .inl A_refused)), (aN, .inr (0, [.int N_width, .int N_height, .long N_everywhere, .long N_firstColumn, .long N_lastColumn, .ref aN_grounds, .ref aN_airs, .ref aN_tolds, .ref aN_fees, .ref aN_lets, .int N_makers, .ref aN_kinds, .ref aN_cells, .ref aN_selves, .ref aN_cries, .int N_leaves, .ref aN_parts, .int N_pasts, .ref aN_past])), (aN_lets, .inl (gI G, 6, .inl N_lets))] (some (.int res.1)) [(aA, .inr (3, [.ref aN, .ref A_draft, .ref aA_images, .ref aA_kept, .ref A_sound, .ref A_reader, .ref aA_refused, .ref aA_heardBy])), (aA_refused, .inl (gI G, 3, .inl (res.2.1))), (aN, .inr (0, [.int N_width, .int N_height, .long N_everywhere, .long N_firstColumn, .long N_lastColumn, .ref aN_grounds, .ref aN_airs, .ref aN_tolds, .ref aN_fees, .ref aN_lets, .int N_makers, .ref aN_kinds, .ref aN_cells, .ref aN_selves, .ref aN_cries, .int N_leaves, .ref aN_parts, .int N_pasts, .ref aN_past])), (aN_lets, .inl (gI G, 6, .inl (res.2.2)))] := by
  refine Ct.mk (by decide) (Nat.le_of_ble_eq_true rfl) ?_
  intro p e s m args below meth c ls A Q C hE hW hl hQ
  have C : Cx p s args m c meth "LentAir" y_Ai_let b_Ai_let 4 (some .int) := C
  have hl : lv_has ls 4 [(0, .ref aA), (1, .int p1), (2, .int p2)] := hl
  unfold f_Ai_let at h
  refine lv_iload_n C.1.1 C.1.2.1 d_Ai_let_0 rfl (lv_at hl 1 rfl) ?_
  obtain ⟨x1, hc2, h⟩ := bd_at h
  refine x_callS (ws' := [(aA, .inr (3, [.ref aN, .ref A_draft, .ref aA_images, .ref aA_kept, .ref A_sound, .ref A_reader, .ref aA_refused, .ref aA_heardBy])), (aA_refused, .inl (gI G, 3, .inl A_refused)), (aN, .inr (0, [.int N_width, .int N_height, .long N_everywhere, .long N_firstColumn, .long N_lastColumn, .ref aN_grounds, .ref aN_airs, .ref aN_tolds, .ref aN_fees, .ref aN_lets, .int N_makers, .ref aN_kinds, .ref aN_cells, .ref aN_selves, .ref aN_cries, .int N_leaves, .ref aN_parts, .int N_pasts, .ref aN_past])), (aN_lets, .inl (gI G, 6, .inl N_lets))]) (stk := [.int x1]) (rest := []) (As := [.int p1]) C hE hW (c_Ai_isOwner l G p1 hc2) cv_Ai_isOwner tw339 hl rfl rfl (Nat.le_of_ble_eq_true rfl) ⟨Nat.le_of_ble_eq_true rfl, Nat.le_of_ble_eq_true rfl⟩ ⟨Nat.zero_le _, Nat.zero_le _⟩ [] [0, 1, 2, 3] [0, 1, 2, 3] rfl rfl rfl (by decide) rfl rfl rfl rfl d_Ai_let_1 (fun H locs hW => ?_)
  refine jn_at (P := fun (_ : Unit) => ∀ (H : Heap) (locs : List Loc) (ls : Array Slot), Wd G A s.heap H locs [(aA, .inr (3, [.ref aN, .ref A_draft, .ref aA_images, .ref aA_kept, .ref A_sound, .ref A_reader, .ref aA_refused, .ref aA_heardBy])), (aA_refused, .inl (gI G, 3, .inl A_refused)), (aN, .inr (0, [.int N_width, .int N_height, .long N_everywhere, .long N_firstColumn, .long N_lastColumn, .ref aN_grounds, .ref aN_airs, .ref aN_tolds, .ref aN_fees, .ref aN_lets, .int N_makers, .ref aN_kinds, .ref aN_cells, .ref aN_selves, .ref aN_cries, .int N_leaves, .ref aN_parts, .int N_pasts, .ref aN_past])), (aN_lets, .inl (gI G, 6, .inl N_lets))] → lv_has ls 4 [(0, .ref aA)] → W p l e (RM 2 44) s m args below meth c H locs 0 0 Q (F0 m 24 ls [])) h ?_ ?_
  · skip
    intro _ h
    intro H locs ls hW hl
    refine lv_aload_n C.1.1 C.1.2.1 d_Ai_let_24 rfl (lv_at hl 0 rfl) ?_
    refine lv_bipush (v := (-2)) C.1.1 C.1.2.1 d_Ai_let_25 (by decide) ?_
    obtain ⟨⟨x3, x4⟩, hc5, h⟩ := bd_at h
    refine x_callV (ws' := [(aA, .inr (3, [.ref aN, .ref A_draft, .ref aA_images, .ref aA_kept, .ref A_sound, .ref A_reader, .ref aA_refused, .ref aA_heardBy])), (aA_refused, .inl (gI G, 3, .inl x4)), (aN, .inr (0, [.int N_width, .int N_height, .long N_everywhere, .long N_firstColumn, .long N_lastColumn, .ref aN_grounds, .ref aN_airs, .ref aN_tolds, .ref aN_fees, .ref aN_lets, .int N_makers, .ref aN_kinds, .ref aN_cells, .ref aN_selves, .ref aN_cries, .int N_leaves, .ref aN_parts, .int N_pasts, .ref aN_past])), (aN_lets, .inl (gI G, 6, .inl N_lets))]) (stk := [.int x3]) (rest := []) (As := [.int (-2)]) (q0 := 0) C hE hW (c_Ai_refuse l G aA aA_images aA_kept aA_refused aA_heardBy aN A_draft A_sound A_reader A_refused (-2) hc5) cv_Ai_refuse tw308 hl rfl rfl (Nat.le_of_ble_eq_true rfl) rfl rfl rfl ⟨Nat.le_of_ble_eq_true rfl, Nat.le_of_ble_eq_true rfl⟩ ⟨Nat.zero_le _, Nat.zero_le _⟩ [0, 1] [2, 3] [2, 3, 0, 1] rfl rfl rfl (by decide) rfl rfl rfl rfl d_Ai_let_27 (fun H locs hW => ?_)
    obtain rfl := Option.some.inj h
    exact x_iret C hW rfl rfl hQ d_Ai_let_30
  · intro J24 hJ24 h
    refine lv_if_eq (tgt := 24) C.1.1 C.1.2.1 d_Ai_let_4 (by decide) (fun cc => ?_) (fun cc => ?_)
    · replace h := it_t cc h
      exact hJ24 _ h _ _ _ hW (lv_sub hl [0] rfl)
    · replace h := it_f cc h
      refine lv_iload_n C.1.1 C.1.2.1 d_Ai_let_7 rfl (lv_at hl 2 rfl) ?_
      refine lv_iload_n C.1.1 C.1.2.1 d_Ai_let_8 rfl (lv_at hl 1 rfl) ?_
      refine lv_icmp_eq (tgt := 24) C.1.1 C.1.2.1 d_Ai_let_9 (by decide) (fun cc => ?_) (fun cc => ?_)
      · replace h := it_t cc h
        exact hJ24 _ h _ _ _ hW (lv_sub hl [0] rfl)
      · replace h := it_f cc h
        refine lv_iload_n C.1.1 C.1.2.1 d_Ai_let_12 rfl (lv_at hl 2 rfl) ?_
        refine lv_iconst (v := (-1)) C.1.1 C.1.2.1 d_Ai_let_13 (by decide) ?_
        refine jn_at (P := fun (_ : Unit) => ∀ (H : Heap) (locs : List Loc) (ls : Array Slot), Wd G A s.heap H locs [(aA, .inr (3, [.ref aN, .ref A_draft, .ref aA_images, .ref aA_kept, .ref A_sound, .ref A_reader, .ref aA_refused, .ref aA_heardBy])), (aA_refused, .inl (gI G, 3, .inl A_refused)), (aN, .inr (0, [.int N_width, .int N_height, .long N_everywhere, .long N_firstColumn, .long N_lastColumn, .ref aN_grounds, .ref aN_airs, .ref aN_tolds, .ref aN_fees, .ref aN_lets, .int N_makers, .ref aN_kinds, .ref aN_cells, .ref aN_selves, .ref aN_cries, .int N_leaves, .ref aN_parts, .int N_pasts, .ref aN_past])), (aN_lets, .inl (gI G, 6, .inl N_lets))] → lv_has ls 4 [(0, .ref aA), (1, .int p1), (2, .int p2)] → W p l e (RM 2 44) s m args below meth c H locs 0 0 Q (F0 m 31 ls [])) h ?_ ?_
        · skip
          intro _ h
          intro H locs ls hW hl
          refine lv_aload_n C.1.1 C.1.2.1 d_Ai_let_31 rfl (lv_at hl 0 rfl) ?_
          refine x_get C hE hW fl_Ai_12 0 rfl rfl d_Ai_let_32 ?_
          refine x_get C hE hW fl_Ai_219 2 rfl rfl d_Ai_let_35 ?_
          refine lv_iload_n C.1.1 C.1.2.1 d_Ai_let_38 rfl (lv_at hl 1 rfl) ?_
          obtain ⟨hg, h⟩ := gd_at h
          refine x_iald C hE hW 3 rfl (inB_in hg) d_Ai_let_39 ?_
          refine lv_topi (fun x6 ex6 => ?_)
          replace h := lt_at ex6 h
          refine lv_istore_n (lv' := [(3, .int x6), (0, .ref aA), (1, .int p1), (2, .int p2)]) C.1.1 C.1.2.1 d_Ai_let_40 rfl hl (by decide) rfl (fun ls hl => ?_)
          refine lv_aload_n C.1.1 C.1.2.1 d_Ai_let_41 rfl (lv_at hl 1 rfl) ?_
          refine x_get C hE hW fl_Ai_12 0 rfl rfl d_Ai_let_42 ?_
          refine x_get C hE hW fl_Ai_219 2 rfl rfl d_Ai_let_45 ?_
          refine lv_iload_n C.1.1 C.1.2.1 d_Ai_let_48 rfl (lv_at hl 2 rfl) ?_
          refine lv_iload_n C.1.1 C.1.2.1 d_Ai_let_49 rfl (lv_at hl 3 rfl) ?_
          obtain ⟨hg, h⟩ := gd_at h
          obtain ⟨x7, ex7⟩ : ∃ y : Nat → Int32, y = upd N_lets p1.toNatClampNeg p2 := ⟨_, rfl⟩
          replace h := lt_at ex7 h
          refine x_iast (ws' := [(aA, .inr (3, [.ref aN, .ref A_draft, .ref aA_images, .ref aA_kept, .ref A_sound, .ref A_reader, .ref aA_refused, .ref aA_heardBy])), (aA_refused, .inl (gI G, 3, .inl A_refused)), (aN, .inr (0, [.int N_width, .int N_height, .long N_everywhere, .long N_firstColumn, .long N_lastColumn, .ref aN_grounds, .ref aN_airs, .ref aN_tolds, .ref aN_fees, .ref aN_lets, .int N_makers, .ref aN_kinds, .ref aN_cells, .ref aN_selves, .ref aN_cries, .int N_leaves, .ref aN_parts, .int N_pasts, .ref aN_past])), (aN_lets, .inl (gI G, 6, .inl x7))]) C hE hW 3 rfl (inB_in hg) (by subst ex7; rfl) d_Ai_let_50 (fun H locs hW => ?_)
          refine lv_iload_n C.1.1 C.1.2.1 d_Ai_let_51 rfl (lv_at hl 0 rfl) ?_
          obtain rfl := Option.some.inj h
          exact x_iret C hW rfl rfl hQ d_Ai_let_52
        · intro J31 hJ31 h
          refine lv_icmp_eq (tgt := 31) C.1.1 C.1.2.1 d_Ai_let_14 (by decide) (fun cc => ?_) (fun cc => ?_)
          · replace h := it_t cc h
            exact hJ31 _ h _ _ _ hW (lv_sub hl [0, 1, 2] rfl)
          · replace h := it_f cc h
            refine lv_iload_n C.1.1 C.1.2.1 d_Ai_let_17 rfl (lv_at hl 2 rfl) ?_
            obtain ⟨x8, hc9, h⟩ := bd_at h
            refine x_callS (ws' := [(aA, .inr (3, [.ref aN, .ref A_draft, .ref aA_images, .ref aA_kept, .ref A_sound, .ref A_reader, .ref aA_refused, .ref aA_heardBy])), (aA_refused, .inl (gI G, 3, .inl A_refused)), (aN, .inr (0, [.int N_width, .int N_height, .long N_everywhere, .long N_firstColumn, .long N_lastColumn, .ref aN_grounds, .ref aN_airs, .ref aN_tolds, .ref aN_fees, .ref aN_lets, .int N_makers, .ref aN_kinds, .ref aN_cells, .ref aN_selves, .ref aN_cries, .int N_leaves, .ref aN_parts, .int N_pasts, .ref aN_past])), (aN_lets, .inl (gI G, 6, .inl N_lets))]) (stk := [.int x8]) (rest := []) (As := [.int p2]) C hE hW (c_Ai_isOwner l G p2 hc9) cv_Ai_isOwner tw339 hl rfl rfl (Nat.le_of_ble_eq_true rfl) ⟨Nat.le_of_ble_eq_true rfl, Nat.le_of_ble_eq_true rfl⟩ ⟨Nat.zero_le _, Nat.zero_le _⟩ [] [0, 1, 2, 3] [0, 1, 2, 3] rfl rfl rfl (by decide) rfl rfl rfl rfl d_Ai_let_18 (fun H locs hW => ?_)
            refine lv_if_ne (tgt := 31) C.1.1 C.1.2.1 d_Ai_let_21 (by decide) (fun cc => ?_) (fun cc => ?_)
            · replace h := it_f cc h
              exact hJ31 _ h _ _ _ hW (lv_sub hl [0, 1, 2] rfl)
            · replace h := it_t cc h
              exact hJ24 _ h _ _ _ hW (lv_sub hl [0] rfl)
set_option maxHeartbeats 4000000 in
set_option maxRecDepth 100000 in
theorem c_Ai_liable (l : Launch) (G : Gl) (aA : Nat) (aA_images : Nat) (aA_kept : Nat) (aA_refused : Nat) (aA_heardBy : Nat) (aN : Nat) (aN_grounds : Nat) (aN_airs : Nat) (aN_tolds : Nat) (aN_fees : Nat) (aN_lets : Nat) (aN_kinds : Nat) (aN_cells : Nat) (aN_selves : Nat) (aN_cries : Nat) (aN_parts : Nat) (aN_past : Nat) (A_draft : Nat) (A_sound : Nat) (A_reader : Nat) (N_width : Int32) (N_height : Int32) (N_everywhere : Int64) (N_firstColumn : Int64) (N_lastColumn : Int64) (N_makers : Int32) (N_leaves : Int32) (N_pasts : Int32) (A_refused : Nat → Int32) (N_lets : Nat → Int32) (p1 : Int32) {res : Int32 × (Nat → Int32)} (h : f_Ai_liable A_refused N_lets p1 = some res) : Ct l y_Ai_liable b_Ai_liable 5 (some .int) 2 44 G [.ref aA, .int p1] [(aA, .inr (3, [.ref aN, .ref A_draft, .ref aA_images, .ref aA_kept, .ref A_sound, .ref A_reader, .ref aA_refused, .ref aA_heardBy])), (aA_refused, .inl (gI G, 3, .inl A_refused)), (aN, .inr (0, [.int N_width, .int N_height, .long N_everywhere, .long N_firstColumn, .long N_lastColumn, .ref aN_grounds, .ref aN_airs, .ref aN_tolds, .ref aN_fees, .ref aN_lets, .int N_makers, .ref aN_kinds, .ref aN_cells, .ref aN_selves, .ref aN_cries, .int N_leaves, .ref aN_parts, .int N_pasts, .ref aN_past])), (aN_lets, .inl (gI G, 6, .inl N_lets))] (some (.int res.1)) [(aA, .inr (3, [.ref aN, .ref A_draft, .ref aA_images, .ref aA_kept, .ref A_sound, .ref A_reader, .ref aA_refused, .ref aA_heardBy])), (aA_refused, .inl (gI G, 3, .inl (res.2))), (aN, .inr (0, [.int N_width, .int N_height, .long N_everywhere, .long N_firstColumn, .long N_lastColumn, .ref aN_grounds, .ref aN_airs, .ref aN_tolds, .ref aN_fees, .ref aN_lets, .int N_makers, .ref aN_kinds, .ref aN_cells, .ref aN_selves, .ref aN_cries, .int N_leaves, .ref aN_parts, .int N_pasts, .ref aN_past])), (aN_lets, .inl (gI G, 6, .inl N_lets))] := by
  refine Ct.mk (by decide) (Nat.le_of_ble_eq_true rfl) ?_
  intro p e s m args below meth c ls A Q C hE hW hl hQ
  have C : Cx p s args m c meth "LentAir" y_Ai_liable b_Ai_liable 5 (some .int) := C
  have hl : lv_has ls 5 [(0, .ref aA), (1, .int p1)] := hl
  unfold f_Ai_liable at h
  refine lv_iload_n C.1.1 C.1.2.1 d_Ai_liable_0 rfl (lv_at hl 1 rfl) ?_
  obtain ⟨x1, hc2, h⟩ := bd_at h
  refine x_callS (ws' := [(aA, .inr (3, [.ref aN, .ref A_draft, .ref aA_images, .ref aA_kept, .ref A_sound, .ref A_reader, .ref aA_refused, .ref aA_heardBy])), (aA_refused, .inl (gI G, 3, .inl A_refused)), (aN, .inr (0, [.int N_width, .int N_height, .long N_everywhere, .long N_firstColumn, .long N_lastColumn, .ref aN_grounds, .ref aN_airs, .ref aN_tolds, .ref aN_fees, .ref aN_lets, .int N_makers, .ref aN_kinds, .ref aN_cells, .ref aN_selves, .ref aN_cries, .int N_leaves, .ref aN_parts, .int N_pasts, .ref aN_past])), (aN_lets, .inl (gI G, 6, .inl N_lets))]) (stk := [.int x1]) (rest := []) (As := [.int p1]) C hE hW (c_Ai_isOwner l G p1 hc2) cv_Ai_isOwner tw339 hl rfl rfl (Nat.le_of_ble_eq_true rfl) ⟨Nat.le_of_ble_eq_true rfl, Nat.le_of_ble_eq_true rfl⟩ ⟨Nat.zero_le _, Nat.zero_le _⟩ [] [0, 1, 2, 3] [0, 1, 2, 3] rfl rfl rfl (by decide) rfl rfl rfl rfl d_Ai_liable_1 (fun H locs hW => ?_)
  refine lv_if_ne (tgt := 14) C.1.1 C.1.2.1 d_Ai_liable_4 (by decide) (fun cc => ?_) (fun cc => ?_)
  · replace h := it_f cc h
    refine lv_iload_n C.1.1 C.1.2.1 d_Ai_liable_14 rfl (lv_at hl 1 rfl) ?_
    refine lv_istore_n (lv' := [(2, .int p1), (0, .ref aA), (1, .int p1)]) C.1.1 C.1.2.1 d_Ai_liable_15 rfl hl (by decide) rfl (fun ls hl => ?_)
    refine lv_iconst (v := 0) C.1.1 C.1.2.1 d_Ai_liable_16 (by decide) ?_
    refine lv_istore_n (lv' := [(3, .int 0), (2, .int p1), (0, .ref aA), (1, .int p1)]) C.1.1 C.1.2.1 d_Ai_liable_17 rfl hl (by decide) rfl (fun ls hl => ?_)
    refine lp_at (P := fun ((x3, x4) : Int32 × Int32) => ∀ (H : Heap) (locs : List Loc) (ls : Array Slot), Wd G A s.heap H locs [(aA, .inr (3, [.ref aN, .ref A_draft, .ref aA_images, .ref aA_kept, .ref A_sound, .ref A_reader, .ref aA_refused, .ref aA_heardBy])), (aA_refused, .inl (gI G, 3, .inl A_refused)), (aN, .inr (0, [.int N_width, .int N_height, .long N_everywhere, .long N_firstColumn, .long N_lastColumn, .ref aN_grounds, .ref aN_airs, .ref aN_tolds, .ref aN_fees, .ref aN_lets, .int N_makers, .ref aN_kinds, .ref aN_cells, .ref aN_selves, .ref aN_cries, .int N_leaves, .ref aN_parts, .int N_pasts, .ref aN_past])), (aN_lets, .inl (gI G, 6, .inl N_lets))] → lv_has ls 5 [(0, .ref aA), (2, .int x3), (3, .int x4)] → W p l e (RM 2 44) s m args below meth c H locs 0 0 Q (F0 m 18 ls [])) ?_ FU _ h _ _ _ hW (lv_sub hl [2, 1, 0] rfl)
    clear h hl hW
    intro rec18 ih18
    intro x h
    obtain ⟨x3, x4⟩ := x
    unfold f_Ai_liable_L18 at h
    intro H locs ls hW hl
    refine lv_iload_n C.1.1 C.1.2.1 d_Ai_liable_18 rfl (lv_at hl 2 rfl) ?_
    refine lv_bipush (v := 6) C.1.1 C.1.2.1 d_Ai_liable_19 (by decide) ?_
    refine lv_icmp_ge (tgt := 51) C.1.1 C.1.2.1 d_Ai_liable_21 (by decide) (fun cc => ?_) (fun cc => ?_)
    · replace h := it_t cc h
      refine lv_iconst (v := (-1)) C.1.1 C.1.2.1 d_Ai_liable_51 (by decide) ?_
      obtain rfl := Option.some.inj h
      exact x_iret C hW rfl rfl hQ d_Ai_liable_52
    · replace h := it_f cc h
      refine lv_aload_n C.1.1 C.1.2.1 d_Ai_liable_24 rfl (lv_at hl 0 rfl) ?_
      refine x_get C hE hW fl_Ai_12 0 rfl rfl d_Ai_liable_25 ?_
      refine lv_iload_n C.1.1 C.1.2.1 d_Ai_liable_28 rfl (lv_at hl 1 rfl) ?_
      obtain ⟨x5, hc6, h⟩ := bd_at h
      refine x_callV (ws' := [(aA, .inr (3, [.ref aN, .ref A_draft, .ref aA_images, .ref aA_kept, .ref A_sound, .ref A_reader, .ref aA_refused, .ref aA_heardBy])), (aA_refused, .inl (gI G, 3, .inl A_refused)), (aN, .inr (0, [.int N_width, .int N_height, .long N_everywhere, .long N_firstColumn, .long N_lastColumn, .ref aN_grounds, .ref aN_airs, .ref aN_tolds, .ref aN_fees, .ref aN_lets, .int N_makers, .ref aN_kinds, .ref aN_cells, .ref aN_selves, .ref aN_cries, .int N_leaves, .ref aN_parts, .int N_pasts, .ref aN_past])), (aN_lets, .inl (gI G, 6, .inl N_lets))]) (stk := [.int x5]) (rest := []) (As := [.int x3]) (q0 := 2) C hE hW (c_Ld_letBy l G aN aN_grounds aN_airs aN_tolds aN_fees aN_lets aN_kinds aN_cells aN_selves aN_cries aN_parts aN_past N_width N_height N_everywhere N_firstColumn N_lastColumn N_makers N_leaves N_pasts N_lets x3 hc6) cv_Ld_letBy tw747 hl rfl rfl (Nat.le_of_ble_eq_true rfl) rfl rfl rfl ⟨Nat.le_of_ble_eq_true rfl, Nat.le_of_ble_eq_true rfl⟩ ⟨Nat.zero_le _, Nat.zero_le _⟩ [2, 3] [0, 1] [0, 1, 2, 3] rfl rfl rfl (by decide) rfl rfl rfl rfl d_Ai_liable_29 (fun H locs hW => ?_)
      refine lv_istore (lv' := [(4, .int x5), (0, .ref aA), (2, .int x3), (3, .int x4)]) C.1.1 C.1.2.1 d_Ai_liable_32 hl (by decide) rfl (fun ls hl => ?_)
      refine lv_iload C.1.1 C.1.2.1 d_Ai_liable_34 (lv_at hl 0 rfl) ?_
      refine lv_iconst (v := (-1)) C.1.1 C.1.2.1 d_Ai_liable_36 (by decide) ?_
      refine lv_icmp_ne (tgt := 42) C.1.1 C.1.2.1 d_Ai_liable_37 (by decide) (fun cc => ?_) (fun cc => ?_)
      · replace h := it_f cc h
        refine lv_iload C.1.1 C.1.2.1 d_Ai_liable_42 (lv_at hl 0 rfl) ?_
        refine lv_istore_n (lv' := [(2, .int x5), (4, .int x5), (0, .ref aA), (3, .int x4)]) C.1.1 C.1.2.1 d_Ai_liable_44 rfl hl (by decide) rfl (fun ls hl => ?_)
        obtain ⟨x7, ex7⟩ : ∃ y : Int32, y = x4 + 1 := ⟨_, rfl⟩
        replace h := lt_at ex7 h
        refine lv_iinc (v := x7) (lv' := [(3, .int x7), (2, .int x5), (4, .int x5), (0, .ref aA)]) C.1.1 C.1.2.1 d_Ai_liable_45 hl (k := 3) rfl (by rw [ex7]; rfl) (by decide) rfl (fun ls hl => ?_)
        refine lv_goto (tgt := 18) C.1.1 C.1.2.1 d_Ai_liable_48 (by decide) ?_
        exact ih18 _ h _ _ _ hW (lv_sub hl [3, 1, 0] rfl)
      · replace h := it_t cc h
        refine lv_iload_n C.1.1 C.1.2.1 d_Ai_liable_40 rfl (lv_at hl 2 rfl) ?_
        obtain rfl := Option.some.inj h
        exact x_iret C hW rfl rfl hQ d_Ai_liable_41
  · replace h := it_t cc h
    refine lv_aload_n C.1.1 C.1.2.1 d_Ai_liable_7 rfl (lv_at hl 0 rfl) ?_
    refine lv_bipush (v := (-2)) C.1.1 C.1.2.1 d_Ai_liable_8 (by decide) ?_
    obtain ⟨⟨x8, x9⟩, hc10, h⟩ := bd_at h
    refine x_callV (ws' := [(aA, .inr (3, [.ref aN, .ref A_draft, .ref aA_images, .ref aA_kept, .ref A_sound, .ref A_reader, .ref aA_refused, .ref aA_heardBy])), (aA_refused, .inl (gI G, 3, .inl x9)), (aN, .inr (0, [.int N_width, .int N_height, .long N_everywhere, .long N_firstColumn, .long N_lastColumn, .ref aN_grounds, .ref aN_airs, .ref aN_tolds, .ref aN_fees, .ref aN_lets, .int N_makers, .ref aN_kinds, .ref aN_cells, .ref aN_selves, .ref aN_cries, .int N_leaves, .ref aN_parts, .int N_pasts, .ref aN_past])), (aN_lets, .inl (gI G, 6, .inl N_lets))]) (stk := [.int x8]) (rest := []) (As := [.int (-2)]) (q0 := 0) C hE hW (c_Ai_refuse l G aA aA_images aA_kept aA_refused aA_heardBy aN A_draft A_sound A_reader A_refused (-2) hc10) cv_Ai_refuse tw308 hl rfl rfl (Nat.le_of_ble_eq_true rfl) rfl rfl rfl ⟨Nat.le_of_ble_eq_true rfl, Nat.le_of_ble_eq_true rfl⟩ ⟨Nat.zero_le _, Nat.zero_le _⟩ [0, 1] [2, 3] [2, 3, 0, 1] rfl rfl rfl (by decide) rfl rfl rfl rfl d_Ai_liable_10 (fun H locs hW => ?_)
    obtain rfl := Option.some.inj h
    exact x_iret C hW rfl rfl hQ d_Ai_liable_13
set_option maxHeartbeats 4000000 in
set_option maxRecDepth 100000 in
theorem c_Ai_rings (l : Launch) (G : Gl) (aA : Nat) (aA_images : Nat) (aA_kept : Nat) (aA_refused : Nat) (aA_heardBy : Nat) (aN : Nat) (aN_grounds : Nat) (aN_airs : Nat) (aN_tolds : Nat) (aN_fees : Nat) (aN_lets : Nat) (aN_kinds : Nat) (aN_cells : Nat) (aN_selves : Nat) (aN_cries : Nat) (aN_parts : Nat) (aN_past : Nat) (A_draft : Nat) (A_sound : Nat) (A_reader : Nat) (N_width : Int32) (N_height : Int32) (N_everywhere : Int64) (N_firstColumn : Int64) (N_lastColumn : Int64) (N_makers : Int32) (N_leaves : Int32) (N_pasts : Int32) (N_lets : Nat → Int32) {res : Int32} (h : f_Ai_rings N_lets = some res) : Ct l y_Ai_rings b_Ai_rings 5 (some .int) 1 21 G [.ref aA] [(aA, .inr (3, [.ref aN, .ref A_draft, .ref aA_images, .ref aA_kept, .ref A_sound, .ref A_reader, .ref aA_refused, .ref aA_heardBy])), (aN, .inr (0, [.int N_width, .int N_height, .long N_everywhere, .long N_firstColumn, .long N_lastColumn, .ref aN_grounds, .ref aN_airs, .ref aN_tolds, .ref aN_fees, .ref aN_lets, .int N_makers, .ref aN_kinds, .ref aN_cells, .ref aN_selves, .ref aN_cries, .int N_leaves, .ref aN_parts, .int N_pasts, .ref aN_past])), (aN_lets, .inl (gI G, 6, .inl N_lets))] (some (.int res)) [(aA, .inr (3, [.ref aN, .ref A_draft, .ref aA_images, .ref aA_kept, .ref A_sound, .ref A_reader, .ref aA_refused, .ref aA_heardBy])), (aN, .inr (0, [.int N_width, .int N_height, .long N_everywhere, .long N_firstColumn, .long N_lastColumn, .ref aN_grounds, .ref aN_airs, .ref aN_tolds, .ref aN_fees, .ref aN_lets, .int N_makers, .ref aN_kinds, .ref aN_cells, .ref aN_selves, .ref aN_cries, .int N_leaves, .ref aN_parts, .int N_pasts, .ref aN_past])), (aN_lets, .inl (gI G, 6, .inl N_lets))] := by
  refine Ct.mk (by decide) (Nat.le_of_ble_eq_true rfl) ?_
  intro p e s m args below meth c ls A Q C hE hW hl hQ
  have C : Cx p s args m c meth "LentAir" y_Ai_rings b_Ai_rings 5 (some .int) := C
  have hl : lv_has ls 5 [(0, .ref aA)] := hl
  unfold f_Ai_rings at h
  refine lv_iconst (v := 0) C.1.1 C.1.2.1 d_Ai_rings_0 (by decide) ?_
  refine lv_istore_n (lv' := [(1, .int 0), (0, .ref aA)]) C.1.1 C.1.2.1 d_Ai_rings_1 rfl hl (by decide) rfl (fun ls hl => ?_)
  refine lv_iconst (v := 0) C.1.1 C.1.2.1 d_Ai_rings_2 (by decide) ?_
  refine lv_istore_n (lv' := [(2, .int 0), (1, .int 0), (0, .ref aA)]) C.1.1 C.1.2.1 d_Ai_rings_3 rfl hl (by decide) rfl (fun ls hl => ?_)
  refine lp_at (P := fun ((x1, x2) : Int32 × Int32) => ∀ (H : Heap) (locs : List Loc) (ls : Array Slot), Wd G A s.heap H locs [(aA, .inr (3, [.ref aN, .ref A_draft, .ref aA_images, .ref aA_kept, .ref A_sound, .ref A_reader, .ref aA_refused, .ref aA_heardBy])), (aN, .inr (0, [.int N_width, .int N_height, .long N_everywhere, .long N_firstColumn, .long N_lastColumn, .ref aN_grounds, .ref aN_airs, .ref aN_tolds, .ref aN_fees, .ref aN_lets, .int N_makers, .ref aN_kinds, .ref aN_cells, .ref aN_selves, .ref aN_cries, .int N_leaves, .ref aN_parts, .int N_pasts, .ref aN_past])), (aN_lets, .inl (gI G, 6, .inl N_lets))] → lv_has ls 5 [(0, .ref aA), (1, .int x1), (2, .int x2)] → W p l e (RM 1 21) s m args below meth c H locs 0 0 Q (F0 m 4 ls [])) ?_ FU _ h _ _ _ hW (lv_sub hl [2, 1, 0] rfl)
  clear h hl hW
  intro rec4 ih4
  intro x h
  obtain ⟨x1, x2⟩ := x
  unfold f_Ai_rings_L4 at h
  intro H locs ls hW hl
  refine lv_iload_n C.1.1 C.1.2.1 d_Ai_rings_4 rfl (lv_at hl 2 rfl) ?_
  refine lv_bipush (v := 6) C.1.1 C.1.2.1 d_Ai_rings_5 (by decide) ?_
  refine lv_icmp_ge (tgt := 54) C.1.1 C.1.2.1 d_Ai_rings_7 (by decide) (fun cc => ?_) (fun cc => ?_)
  · replace h := it_t cc h
    refine lv_iload_n C.1.1 C.1.2.1 d_Ai_rings_54 rfl (lv_at hl 1 rfl) ?_
    obtain rfl := Option.some.inj h
    exact x_iret C hW rfl rfl hQ d_Ai_rings_55
  · replace h := it_f cc h
    refine lv_iload_n C.1.1 C.1.2.1 d_Ai_rings_10 rfl (lv_at hl 2 rfl) ?_
    refine lv_istore_n (lv' := [(3, .int x2), (0, .ref aA), (1, .int x1), (2, .int x2)]) C.1.1 C.1.2.1 d_Ai_rings_11 rfl hl (by decide) rfl (fun ls hl => ?_)
    refine lv_iconst (v := 0) C.1.1 C.1.2.1 d_Ai_rings_12 (by decide) ?_
    refine lv_istore (lv' := [(4, .int 0), (3, .int x2), (0, .ref aA), (1, .int x1), (2, .int x2)]) C.1.1 C.1.2.1 d_Ai_rings_13 hl (by decide) rfl (fun ls hl => ?_)
    refine jn_at (P := fun (x3 : Int32) => ∀ (H : Heap) (locs : List Loc) (ls : Array Slot), Wd G A s.heap H locs [(aA, .inr (3, [.ref aN, .ref A_draft, .ref aA_images, .ref aA_kept, .ref A_sound, .ref A_reader, .ref aA_refused, .ref aA_heardBy])), (aN, .inr (0, [.int N_width, .int N_height, .long N_everywhere, .long N_firstColumn, .long N_lastColumn, .ref aN_grounds, .ref aN_airs, .ref aN_tolds, .ref aN_fees, .ref aN_lets, .int N_makers, .ref aN_kinds, .ref aN_cells, .ref aN_selves, .ref aN_cries, .int N_leaves, .ref aN_parts, .int N_pasts, .ref aN_past])), (aN_lets, .inl (gI G, 6, .inl N_lets))] → lv_has ls 5 [(0, .ref aA), (1, .int x3), (2, .int x2)] → W p l e (RM 1 21) s m args below meth c H locs 0 0 Q (F0 m 48 ls [])) h ?_ ?_
    · skip
      intro x3 h
      intro H locs ls hW hl
      obtain ⟨x4, ex4⟩ : ∃ y : Int32, y = x2 + 1 := ⟨_, rfl⟩
      replace h := lt_at ex4 h
      refine lv_iinc (v := x4) (lv' := [(2, .int x4), (0, .ref aA), (1, .int x3)]) C.1.1 C.1.2.1 d_Ai_rings_48 hl (k := 2) rfl (by rw [ex4]; rfl) (by decide) rfl (fun ls hl => ?_)
      refine lv_goto (tgt := 4) C.1.1 C.1.2.1 d_Ai_rings_51 (by decide) ?_
      exact ih4 _ h _ _ _ hW (lv_sub hl [1, 2, 0] rfl)
    · intro J48 hJ48 h
      refine lp_at (P := fun ((x5, x6, x7) : Int32 × Int32 × Int32) => ∀ (H : Heap) (locs : List Loc) (ls : Array Slot), Wd G A s.heap H locs [(aA, .inr (3, [.ref aN, .ref A_draft, .ref aA_images, .ref aA_kept, .ref A_sound, .ref A_reader, .ref aA_refused, .ref aA_heardBy])), (aN, .inr (0, [.int N_width, .int N_height, .long N_everywhere, .long N_firstColumn, .long N_lastColumn, .ref aN_grounds, .ref aN_airs, .ref aN_tolds, .ref aN_fees, .ref aN_lets, .int N_makers, .ref aN_kinds, .ref aN_cells, .ref aN_selves, .ref aN_cries, .int N_leaves, .ref aN_parts, .int N_pasts, .ref aN_past])), (aN_lets, .inl (gI G, 6, .inl N_lets))] → lv_has ls 5 [(0, .ref aA), (1, .int x5), (2, .int x2), (3, .int x6), (4, .int x7)] → W p l e (RM 1 21) s m args below meth c H locs 0 0 Q (F0 m 15 ls [])) ?_ FU _ h _ _ _ hW (lv_sub hl [2, 3, 4, 1, 0] rfl)
      clear h hl hW
      intro rec15 ih15
      intro x h
      obtain ⟨x5, x6, x7⟩ := x
      unfold f_Ai_rings_L15 at h
      intro H locs ls hW hl
      refine lv_iload C.1.1 C.1.2.1 d_Ai_rings_15 (lv_at hl 4 rfl) ?_
      refine lv_bipush (v := 6) C.1.1 C.1.2.1 d_Ai_rings_17 (by decide) ?_
      refine lv_icmp_ge (tgt := 48) C.1.1 C.1.2.1 d_Ai_rings_19 (by decide) (fun cc => ?_) (fun cc => ?_)
      · replace h := it_t cc h
        exact hJ48 _ h _ _ _ hW (lv_sub hl [0, 1, 2] rfl)
      · replace h := it_f cc h
        refine lv_aload_n C.1.1 C.1.2.1 d_Ai_rings_22 rfl (lv_at hl 0 rfl) ?_
        refine x_get C hE hW fl_Ai_12 0 rfl rfl d_Ai_rings_23 ?_
        refine lv_iload_n C.1.1 C.1.2.1 d_Ai_rings_26 rfl (lv_at hl 3 rfl) ?_
        obtain ⟨x8, hc9, h⟩ := bd_at h
        refine x_callV (ws' := [(aA, .inr (3, [.ref aN, .ref A_draft, .ref aA_images, .ref aA_kept, .ref A_sound, .ref A_reader, .ref aA_refused, .ref aA_heardBy])), (aN, .inr (0, [.int N_width, .int N_height, .long N_everywhere, .long N_firstColumn, .long N_lastColumn, .ref aN_grounds, .ref aN_airs, .ref aN_tolds, .ref aN_fees, .ref aN_lets, .int N_makers, .ref aN_kinds, .ref aN_cells, .ref aN_selves, .ref aN_cries, .int N_leaves, .ref aN_parts, .int N_pasts, .ref aN_past])), (aN_lets, .inl (gI G, 6, .inl N_lets))]) (stk := [.int x8]) (rest := []) (As := [.int x6]) (q0 := 1) C hE hW (c_Ld_letBy l G aN aN_grounds aN_airs aN_tolds aN_fees aN_lets aN_kinds aN_cells aN_selves aN_cries aN_parts aN_past N_width N_height N_everywhere N_firstColumn N_lastColumn N_makers N_leaves N_pasts N_lets x6 hc9) cv_Ld_letBy tw747 hl rfl rfl (Nat.le_of_ble_eq_true rfl) rfl rfl rfl ⟨Nat.le_of_ble_eq_true rfl, Nat.le_of_ble_eq_true rfl⟩ ⟨Nat.zero_le _, Nat.zero_le _⟩ [1, 2] [0] [0, 1, 2] rfl rfl rfl (by decide) rfl rfl rfl rfl d_Ai_rings_27 (fun H locs hW => ?_)
        refine lv_istore_n (lv' := [(3, .int x8), (0, .ref aA), (1, .int x5), (2, .int x2), (4, .int x7)]) C.1.1 C.1.2.1 d_Ai_rings_30 rfl hl (by decide) rfl (fun ls hl => ?_)
        refine lv_iload_n C.1.1 C.1.2.1 d_Ai_rings_31 rfl (lv_at hl 0 rfl) ?_
        refine lv_iload_n C.1.1 C.1.2.1 d_Ai_rings_32 rfl (lv_at hl 3 rfl) ?_
        refine jn_at (P := fun (x10 : Int32) => ∀ (H : Heap) (locs : List Loc) (ls : Array Slot), Wd G A s.heap H locs [(aA, .inr (3, [.ref aN, .ref A_draft, .ref aA_images, .ref aA_kept, .ref A_sound, .ref A_reader, .ref aA_refused, .ref aA_heardBy])), (aN, .inr (0, [.int N_width, .int N_height, .long N_everywhere, .long N_firstColumn, .long N_lastColumn, .ref aN_grounds, .ref aN_airs, .ref aN_tolds, .ref aN_fees, .ref aN_lets, .int N_makers, .ref aN_kinds, .ref aN_cells, .ref aN_selves, .ref aN_cries, .int N_leaves, .ref aN_parts, .int N_pasts, .ref aN_past])), (aN_lets, .inl (gI G, 6, .inl N_lets))] → lv_has ls 5 [(0, .ref aA), (1, .int x10), (2, .int x2), (3, .int x8), (4, .int x7)] → W p l e (RM 1 21) s m args below meth c H locs 0 0 Q (F0 m 42 ls [])) h ?_ ?_
        · skip
          intro x10 h
          intro H locs ls hW hl
          obtain ⟨x11, ex11⟩ : ∃ y : Int32, y = x7 + 1 := ⟨_, rfl⟩
          replace h := lt_at ex11 h
          refine lv_iinc (v := x11) (lv' := [(4, .int x11), (0, .ref aA), (1, .int x10), (2, .int x2), (3, .int x8)]) C.1.1 C.1.2.1 d_Ai_rings_42 hl (k := 4) rfl (by rw [ex11]; rfl) (by decide) rfl (fun ls hl => ?_)
          refine lv_goto (tgt := 15) C.1.1 C.1.2.1 d_Ai_rings_45 (by decide) ?_
          exact ih15 _ h _ _ _ hW (lv_sub hl [1, 2, 3, 4, 0] rfl)
        · intro J42 hJ42 h
          refine lv_icmp_ne (tgt := 42) C.1.1 C.1.2.1 d_Ai_rings_33 (by decide) (fun cc => ?_) (fun cc => ?_)
          · replace h := it_f cc h
            exact hJ42 _ h _ _ _ hW (lv_sub hl [1, 2, 3, 0, 4] rfl)
          · replace h := it_t cc h
            refine lv_iload_n C.1.1 C.1.2.1 d_Ai_rings_36 rfl (lv_at hl 2 rfl) ?_
            refine lv_iconst (v := 1) C.1.1 C.1.2.1 d_Ai_rings_37 (by decide) ?_
            refine lv_iload_n C.1.1 C.1.2.1 d_Ai_rings_38 rfl (lv_at hl 3 rfl) ?_
            refine lv_ishl C.1.1 C.1.2.1 d_Ai_rings_39 ?_
            refine lv_ior C.1.1 C.1.2.1 d_Ai_rings_40 ?_
            refine lv_topi (fun x12 ex12 => ?_)
            replace h := lt_at ex12 h
            refine lv_istore_n (lv' := [(1, .int x12), (3, .int x8), (0, .ref aA), (2, .int x2), (4, .int x7)]) C.1.1 C.1.2.1 d_Ai_rings_41 rfl hl (by decide) rfl (fun ls hl => ?_)
            exact hJ42 _ h _ _ _ hW (lv_sub hl [2, 0, 3, 1, 4] rfl)
set_option maxHeartbeats 4000000 in
set_option maxRecDepth 100000 in
theorem c_Ai_first (l : Launch) (G : Gl) (aA : Nat) (aA_images : Nat) (aA_kept : Nat) (aA_refused : Nat) (aA_heardBy : Nat) (aN : Nat) (aN_grounds : Nat) (aN_airs : Nat) (aN_tolds : Nat) (aN_fees : Nat) (aN_lets : Nat) (aN_kinds : Nat) (aN_cells : Nat) (aN_selves : Nat) (aN_cries : Nat) (aN_parts : Nat) (aN_past : Nat) (aS : Nat) (aS_may : Nat) (aS_ways : Nat) (aS_echo : Nat) (aS_echoes : Nat) (A_draft : Nat) (A_reader : Nat) (N_width : Int32) (N_height : Int32) (N_everywhere : Int64) (N_firstColumn : Int64) (N_lastColumn : Int64) (N_makers : Int32) (N_leaves : Int32) (N_pasts : Int32) (S_land : Nat) (S_maker : Int32) (S_loud : Int32) (S_hour : Int32) (S_bought : Int32) (S_gone : Int32) (S_straight : Int64) (S_all : Int64) (A_refused : Nat → Int32) (N_grounds : Nat → Int64) (N_airs : Nat → Int64) (N_kinds : Nat → Int32) (N_cells : Nat → Int32) (N_selves : Nat → Int32) (N_parts : Nat → Int32) (S_may : Nat → Int64) (S_ways : Nat → Int64) (S_echo : Nat → Int64) (S_echoes : Nat → Int64) (p1 : Int32) (p2 : Int32) (p3 : Int32) (p4 : Int32) {res : Int32 × (Nat → Int32) × Nat × Int32 × Int32 × Int32 × Int32 × Int32 × (Nat → Int64) × (Nat → Int64) × (Nat → Int64) × (Nat → Int64) × Int64 × Int64} (h : f_Ai_first aN N_width N_height N_everywhere N_firstColumn N_lastColumn N_makers N_leaves S_land S_maker S_loud S_hour S_bought S_gone S_straight S_all A_refused N_grounds N_airs N_kinds N_cells N_selves N_parts S_may S_ways S_echo S_echoes p1 p2 p3 p4 = some res) : Ct l y_Ai_first b_Ai_first 6 (some .int) 6 152 G [.ref aA, .int p1, .int p2, .int p3, .int p4] [(aA, .inr (3, [.ref aN, .ref A_draft, .ref aA_images, .ref aA_kept, .ref aS, .ref A_reader, .ref aA_refused, .ref aA_heardBy])), (aA_refused, .inl (gI G, 3, .inl A_refused)), (aN, .inr (0, [.int N_width, .int N_height, .long N_everywhere, .long N_firstColumn, .long N_lastColumn, .ref aN_grounds, .ref aN_airs, .ref aN_tolds, .ref aN_fees, .ref aN_lets, .int N_makers, .ref aN_kinds, .ref aN_cells, .ref aN_selves, .ref aN_cries, .int N_leaves, .ref aN_parts, .int N_pasts, .ref aN_past])), (aN_grounds, .inl (gJ G, 3, .inr (.inl N_grounds))), (aN_airs, .inl (gJ G, 6, .inr (.inl N_airs))), (aN_kinds, .inl (gI G, 6, .inl N_kinds)), (aN_cells, .inl (gI G, 6, .inl N_cells)), (aN_selves, .inl (gI G, 6, .inl N_selves)), (aN_parts, .inl (gI G, 40, .inl N_parts)), (aS, .inr (2, [.ref S_land, .int S_maker, .int S_loud, .int S_hour, .int S_bought, .int S_gone, .ref aS_may, .ref aS_ways, .ref aS_echo, .ref aS_echoes, .long S_straight, .long S_all])), (aS_may, .inl (gJ G, 21, .inr (.inl S_may))), (aS_ways, .inl (gJ G, 21, .inr (.inl S_ways))), (aS_echo, .inl (gJ G, 21, .inr (.inl S_echo))), (aS_echoes, .inl (gJ G, 21, .inr (.inl S_echoes)))] (some (.int res.1)) [(aA, .inr (3, [.ref aN, .ref A_draft, .ref aA_images, .ref aA_kept, .ref aS, .ref A_reader, .ref aA_refused, .ref aA_heardBy])), (aA_refused, .inl (gI G, 3, .inl (res.2.1))), (aN, .inr (0, [.int N_width, .int N_height, .long N_everywhere, .long N_firstColumn, .long N_lastColumn, .ref aN_grounds, .ref aN_airs, .ref aN_tolds, .ref aN_fees, .ref aN_lets, .int N_makers, .ref aN_kinds, .ref aN_cells, .ref aN_selves, .ref aN_cries, .int N_leaves, .ref aN_parts, .int N_pasts, .ref aN_past])), (aN_grounds, .inl (gJ G, 3, .inr (.inl N_grounds))), (aN_airs, .inl (gJ G, 6, .inr (.inl N_airs))), (aN_kinds, .inl (gI G, 6, .inl N_kinds)), (aN_cells, .inl (gI G, 6, .inl N_cells)), (aN_selves, .inl (gI G, 6, .inl N_selves)), (aN_parts, .inl (gI G, 40, .inl N_parts)), (aS, .inr (2, [.ref (res.2.2.1), .int (res.2.2.2.1), .int (res.2.2.2.2.1), .int (res.2.2.2.2.2.1), .int (res.2.2.2.2.2.2.1), .int (res.2.2.2.2.2.2.2.1), .ref aS_may, .ref aS_ways, .ref aS_echo, .ref aS_echoes, .long (res.2.2.2.2.2.2.2.2.2.2.2.2.1), .long (res.2.2.2.2.2.2.2.2.2.2.2.2.2)])), (aS_may, .inl (gJ G, 21, .inr (.inl (res.2.2.2.2.2.2.2.2.1)))), (aS_ways, .inl (gJ G, 21, .inr (.inl (res.2.2.2.2.2.2.2.2.2.1)))), (aS_echo, .inl (gJ G, 21, .inr (.inl (res.2.2.2.2.2.2.2.2.2.2.1)))), (aS_echoes, .inl (gJ G, 21, .inr (.inl (res.2.2.2.2.2.2.2.2.2.2.2.1))))] := by
  refine Ct.mk (by decide) (Nat.le_of_ble_eq_true rfl) ?_
  intro p e s m args below meth c ls A Q C hE hW hl hQ
  have C : Cx p s args m c meth "LentAir" y_Ai_first b_Ai_first 6 (some .int) := C
  have hl : lv_has ls 6 [(0, .ref aA), (1, .int p1), (2, .int p2), (3, .int p3), (4, .int p4)] := hl
  unfold f_Ai_first at h
  refine lv_aload_n C.1.1 C.1.2.1 d_Ai_first_0 rfl (lv_at hl 0 rfl) ?_
  refine lv_iload_n C.1.1 C.1.2.1 d_Ai_first_1 rfl (lv_at hl 1 rfl) ?_
  refine lv_iload_n C.1.1 C.1.2.1 d_Ai_first_2 rfl (lv_at hl 2 rfl) ?_
  refine lv_iload_n C.1.1 C.1.2.1 d_Ai_first_3 rfl (lv_at hl 3 rfl) ?_
  obtain ⟨x1, hc2, h⟩ := bd_at h
  refine x_callV (ws' := [(aA, .inr (3, [.ref aN, .ref A_draft, .ref aA_images, .ref aA_kept, .ref aS, .ref A_reader, .ref aA_refused, .ref aA_heardBy])), (aA_refused, .inl (gI G, 3, .inl A_refused)), (aN, .inr (0, [.int N_width, .int N_height, .long N_everywhere, .long N_firstColumn, .long N_lastColumn, .ref aN_grounds, .ref aN_airs, .ref aN_tolds, .ref aN_fees, .ref aN_lets, .int N_makers, .ref aN_kinds, .ref aN_cells, .ref aN_selves, .ref aN_cries, .int N_leaves, .ref aN_parts, .int N_pasts, .ref aN_past])), (aN_grounds, .inl (gJ G, 3, .inr (.inl N_grounds))), (aN_airs, .inl (gJ G, 6, .inr (.inl N_airs))), (aN_kinds, .inl (gI G, 6, .inl N_kinds)), (aN_cells, .inl (gI G, 6, .inl N_cells)), (aN_selves, .inl (gI G, 6, .inl N_selves)), (aN_parts, .inl (gI G, 40, .inl N_parts)), (aS, .inr (2, [.ref S_land, .int S_maker, .int S_loud, .int S_hour, .int S_bought, .int S_gone, .ref aS_may, .ref aS_ways, .ref aS_echo, .ref aS_echoes, .long S_straight, .long S_all])), (aS_may, .inl (gJ G, 21, .inr (.inl S_may))), (aS_ways, .inl (gJ G, 21, .inr (.inl S_ways))), (aS_echo, .inl (gJ G, 21, .inr (.inl S_echo))), (aS_echoes, .inl (gJ G, 21, .inr (.inl S_echoes)))]) (stk := [.int x1]) (rest := []) (As := [.int p1, .int p2, .int p3]) (q0 := 0) C hE hW (c_Ai_isSound l G aA aA_images aA_kept aA_refused aA_heardBy aN aN_grounds aN_airs aN_tolds aN_fees aN_lets aN_kinds aN_cells aN_selves aN_cries aN_parts aN_past A_draft aS A_reader N_width N_height N_everywhere N_firstColumn N_lastColumn N_makers N_leaves N_pasts p1 p2 p3 hc2) cv_Ai_isSound tw554 hl rfl rfl (Nat.le_of_ble_eq_true rfl) rfl rfl rfl ⟨Nat.le_of_ble_eq_true rfl, Nat.le_of_ble_eq_true rfl⟩ ⟨Nat.zero_le _, Nat.zero_le _⟩ [0, 2] [1, 3, 4, 5, 6, 7, 8, 9, 10, 11, 12, 13] [12, 0, 13, 1, 2, 3, 4, 5, 6, 7, 8, 9, 10, 11] rfl rfl rfl (by decide) rfl rfl rfl rfl d_Ai_first_4 (fun H locs hW => ?_)
  refine jn_at (P := fun (_ : Unit) => ∀ (H : Heap) (locs : List Loc) (ls : Array Slot), Wd G A s.heap H locs [(aA, .inr (3, [.ref aN, .ref A_draft, .ref aA_images, .ref aA_kept, .ref aS, .ref A_reader, .ref aA_refused, .ref aA_heardBy])), (aA_refused, .inl (gI G, 3, .inl A_refused)), (aN, .inr (0, [.int N_width, .int N_height, .long N_everywhere, .long N_firstColumn, .long N_lastColumn, .ref aN_grounds, .ref aN_airs, .ref aN_tolds, .ref aN_fees, .ref aN_lets, .int N_makers, .ref aN_kinds, .ref aN_cells, .ref aN_selves, .ref aN_cries, .int N_leaves, .ref aN_parts, .int N_pasts, .ref aN_past])), (aN_grounds, .inl (gJ G, 3, .inr (.inl N_grounds))), (aN_airs, .inl (gJ G, 6, .inr (.inl N_airs))), (aN_kinds, .inl (gI G, 6, .inl N_kinds)), (aN_cells, .inl (gI G, 6, .inl N_cells)), (aN_selves, .inl (gI G, 6, .inl N_selves)), (aN_parts, .inl (gI G, 40, .inl N_parts)), (aS, .inr (2, [.ref S_land, .int S_maker, .int S_loud, .int S_hour, .int S_bought, .int S_gone, .ref aS_may, .ref aS_ways, .ref aS_echo, .ref aS_echoes, .long S_straight, .long S_all])), (aS_may, .inl (gJ G, 21, .inr (.inl S_may))), (aS_ways, .inl (gJ G, 21, .inr (.inl S_ways))), (aS_echo, .inl (gJ G, 21, .inr (.inl S_echo))), (aS_echoes, .inl (gJ G, 21, .inr (.inl S_echoes)))] → lv_has ls 6 [(0, .ref aA)] → W p l e (RM 6 152) s m args below meth c H locs 0 0 Q (F0 m 19 ls [])) h ?_ ?_
  · skip
    intro _ h
    intro H locs ls hW hl
    refine lv_aload_n C.1.1 C.1.2.1 d_Ai_first_19 rfl (lv_at hl 0 rfl) ?_
    refine lv_bipush (v := (-2)) C.1.1 C.1.2.1 d_Ai_first_20 (by decide) ?_
    obtain ⟨⟨x3, x4⟩, hc5, h⟩ := bd_at h
    refine x_callV (ws' := [(aA, .inr (3, [.ref aN, .ref A_draft, .ref aA_images, .ref aA_kept, .ref aS, .ref A_reader, .ref aA_refused, .ref aA_heardBy])), (aA_refused, .inl (gI G, 3, .inl x4)), (aN, .inr (0, [.int N_width, .int N_height, .long N_everywhere, .long N_firstColumn, .long N_lastColumn, .ref aN_grounds, .ref aN_airs, .ref aN_tolds, .ref aN_fees, .ref aN_lets, .int N_makers, .ref aN_kinds, .ref aN_cells, .ref aN_selves, .ref aN_cries, .int N_leaves, .ref aN_parts, .int N_pasts, .ref aN_past])), (aN_grounds, .inl (gJ G, 3, .inr (.inl N_grounds))), (aN_airs, .inl (gJ G, 6, .inr (.inl N_airs))), (aN_kinds, .inl (gI G, 6, .inl N_kinds)), (aN_cells, .inl (gI G, 6, .inl N_cells)), (aN_selves, .inl (gI G, 6, .inl N_selves)), (aN_parts, .inl (gI G, 40, .inl N_parts)), (aS, .inr (2, [.ref S_land, .int S_maker, .int S_loud, .int S_hour, .int S_bought, .int S_gone, .ref aS_may, .ref aS_ways, .ref aS_echo, .ref aS_echoes, .long S_straight, .long S_all])), (aS_may, .inl (gJ G, 21, .inr (.inl S_may))), (aS_ways, .inl (gJ G, 21, .inr (.inl S_ways))), (aS_echo, .inl (gJ G, 21, .inr (.inl S_echo))), (aS_echoes, .inl (gJ G, 21, .inr (.inl S_echoes)))]) (stk := [.int x3]) (rest := []) (As := [.int (-2)]) (q0 := 0) C hE hW (c_Ai_refuse l G aA aA_images aA_kept aA_refused aA_heardBy aN A_draft aS A_reader A_refused (-2) hc5) cv_Ai_refuse tw308 hl rfl rfl (Nat.le_of_ble_eq_true rfl) rfl rfl rfl ⟨Nat.le_of_ble_eq_true rfl, Nat.le_of_ble_eq_true rfl⟩ ⟨Nat.zero_le _, Nat.zero_le _⟩ [0, 1] [2, 3, 4, 5, 6, 7, 8, 9, 10, 11, 12, 13] [12, 13, 0, 1, 2, 3, 4, 5, 6, 7, 8, 9, 10, 11] rfl rfl rfl (by decide) rfl rfl rfl rfl d_Ai_first_22 (fun H locs hW => ?_)
    obtain rfl := Option.some.inj h
    exact x_iret C hW rfl rfl hQ d_Ai_first_25
  · intro J19 hJ19 h
    refine lv_if_eq (tgt := 19) C.1.1 C.1.2.1 d_Ai_first_7 (by decide) (fun cc => ?_) (fun cc => ?_)
    · replace h := it_t cc h
      exact hJ19 _ h _ _ _ hW (lv_sub hl [0] rfl)
    · replace h := it_f cc h
      refine lv_aload_n C.1.1 C.1.2.1 d_Ai_first_10 rfl (lv_at hl 0 rfl) ?_
      refine lv_iload C.1.1 C.1.2.1 d_Ai_first_11 (lv_at hl 4 rfl) ?_
      obtain ⟨x6, hc7, h⟩ := bd_at h
      refine x_callV (ws' := [(aA, .inr (3, [.ref aN, .ref A_draft, .ref aA_images, .ref aA_kept, .ref aS, .ref A_reader, .ref aA_refused, .ref aA_heardBy])), (aA_refused, .inl (gI G, 3, .inl A_refused)), (aN, .inr (0, [.int N_width, .int N_height, .long N_everywhere, .long N_firstColumn, .long N_lastColumn, .ref aN_grounds, .ref aN_airs, .ref aN_tolds, .ref aN_fees, .ref aN_lets, .int N_makers, .ref aN_kinds, .ref aN_cells, .ref aN_selves, .ref aN_cries, .int N_leaves, .ref aN_parts, .int N_pasts, .ref aN_past])), (aN_grounds, .inl (gJ G, 3, .inr (.inl N_grounds))), (aN_airs, .inl (gJ G, 6, .inr (.inl N_airs))), (aN_kinds, .inl (gI G, 6, .inl N_kinds)), (aN_cells, .inl (gI G, 6, .inl N_cells)), (aN_selves, .inl (gI G, 6, .inl N_selves)), (aN_parts, .inl (gI G, 40, .inl N_parts)), (aS, .inr (2, [.ref S_land, .int S_maker, .int S_loud, .int S_hour, .int S_bought, .int S_gone, .ref aS_may, .ref aS_ways, .ref aS_echo, .ref aS_echoes, .long S_straight, .long S_all])), (aS_may, .inl (gJ G, 21, .inr (.inl S_may))), (aS_ways, .inl (gJ G, 21, .inr (.inl S_ways))), (aS_echo, .inl (gJ G, 21, .inr (.inl S_echo))), (aS_echoes, .inl (gJ G, 21, .inr (.inl S_echoes)))]) (stk := [.int x6]) (rest := []) (As := [.int p4]) (q0 := 0) C hE hW (c_Ai_isCell l G aA aA_images aA_kept aA_refused aA_heardBy aN aN_grounds aN_airs aN_tolds aN_fees aN_lets aN_kinds aN_cells aN_selves aN_cries aN_parts aN_past A_draft aS A_reader N_width N_height N_everywhere N_firstColumn N_lastColumn N_makers N_leaves N_pasts p4 hc7) cv_Ai_isCell tw321 hl rfl rfl (Nat.le_of_ble_eq_true rfl) rfl rfl rfl ⟨Nat.le_of_ble_eq_true rfl, Nat.le_of_ble_eq_true rfl⟩ ⟨Nat.zero_le _, Nat.zero_le _⟩ [0, 2] [1, 3, 4, 5, 6, 7, 8, 9, 10, 11, 12, 13] [12, 0, 13, 1, 2, 3, 4, 5, 6, 7, 8, 9, 10, 11] rfl rfl rfl (by decide) rfl rfl rfl rfl d_Ai_first_13 (fun H locs hW => ?_)
      refine lv_if_ne (tgt := 26) C.1.1 C.1.2.1 d_Ai_first_16 (by decide) (fun cc => ?_) (fun cc => ?_)
      · replace h := it_f cc h
        refine lv_iload_n C.1.1 C.1.2.1 d_Ai_first_26 rfl (lv_at hl 3 rfl) ?_
        refine lv_istore (lv' := [(5, .int p3), (0, .ref aA), (1, .int p1), (2, .int p2), (3, .int p3), (4, .int p4)]) C.1.1 C.1.2.1 d_Ai_first_27 hl (by decide) rfl (fun ls hl => ?_)
        refine lp_at (P := fun ((x8, x9, x10, x11, x12, x13, x14, x15, x16, x17, x18, x19, x20) : Int32 × Nat × Int32 × Int32 × Int32 × Int32 × Int32 × (Nat → Int64) × (Nat → Int64) × (Nat → Int64) × (Nat → Int64) × Int64 × Int64) => ∀ (H : Heap) (locs : List Loc) (ls : Array Slot), Wd G A s.heap H locs [(aA, .inr (3, [.ref aN, .ref A_draft, .ref aA_images, .ref aA_kept, .ref aS, .ref A_reader, .ref aA_refused, .ref aA_heardBy])), (aA_refused, .inl (gI G, 3, .inl A_refused)), (aN, .inr (0, [.int N_width, .int N_height, .long N_everywhere, .long N_firstColumn, .long N_lastColumn, .ref aN_grounds, .ref aN_airs, .ref aN_tolds, .ref aN_fees, .ref aN_lets, .int N_makers, .ref aN_kinds, .ref aN_cells, .ref aN_selves, .ref aN_cries, .int N_leaves, .ref aN_parts, .int N_pasts, .ref aN_past])), (aN_grounds, .inl (gJ G, 3, .inr (.inl N_grounds))), (aN_airs, .inl (gJ G, 6, .inr (.inl N_airs))), (aN_kinds, .inl (gI G, 6, .inl N_kinds)), (aN_cells, .inl (gI G, 6, .inl N_cells)), (aN_selves, .inl (gI G, 6, .inl N_selves)), (aN_parts, .inl (gI G, 40, .inl N_parts)), (aS, .inr (2, [.ref x9, .int x10, .int x11, .int x12, .int x13, .int x14, .ref aS_may, .ref aS_ways, .ref aS_echo, .ref aS_echoes, .long x19, .long x20])), (aS_may, .inl (gJ G, 21, .inr (.inl x15))), (aS_ways, .inl (gJ G, 21, .inr (.inl x16))), (aS_echo, .inl (gJ G, 21, .inr (.inl x17))), (aS_echoes, .inl (gJ G, 21, .inr (.inl x18)))] → lv_has ls 6 [(0, .ref aA), (1, .int p1), (2, .int p2), (4, .int p4), (5, .int x8)] → W p l e (RM 6 152) s m args below meth c H locs 0 0 Q (F0 m 29 ls [])) ?_ FU _ h _ _ _ hW (lv_sub hl [1, 2, 3, 5, 0] rfl)
        clear h hl hW
        intro rec29 ih29
        intro x h
        obtain ⟨x8, x9, x10, x11, x12, x13, x14, x15, x16, x17, x18, x19, x20⟩ := x
        unfold f_Ai_first_L29 at h
        intro H locs ls hW hl
        refine lv_iload C.1.1 C.1.2.1 d_Ai_first_29 (lv_at hl 4 rfl) ?_
        refine lv_bipush (v := 23) C.1.1 C.1.2.1 d_Ai_first_31 (by decide) ?_
        refine lv_icmp_gt (tgt := 68) C.1.1 C.1.2.1 d_Ai_first_33 (by decide) (fun cc => ?_) (fun cc => ?_)
        · replace h := it_t cc h
          refine lv_iconst (v := (-1)) C.1.1 C.1.2.1 d_Ai_first_68 (by decide) ?_
          obtain rfl := Option.some.inj h
          exact x_iret C hW rfl rfl hQ d_Ai_first_69
        · replace h := it_f cc h
          refine lv_aload_n C.1.1 C.1.2.1 d_Ai_first_36 rfl (lv_at hl 0 rfl) ?_
          refine lv_iload_n C.1.1 C.1.2.1 d_Ai_first_37 rfl (lv_at hl 1 rfl) ?_
          refine lv_iload_n C.1.1 C.1.2.1 d_Ai_first_38 rfl (lv_at hl 2 rfl) ?_
          refine lv_iload C.1.1 C.1.2.1 d_Ai_first_39 (lv_at hl 4 rfl) ?_
          obtain ⟨⟨x21, x22, x23, x24, x25, x26, x27, x28, x29, x30, x31⟩, hc32, h⟩ := bd_at h
          refine x_callV (ws' := [(aA, .inr (3, [.ref aN, .ref A_draft, .ref aA_images, .ref aA_kept, .ref aS, .ref A_reader, .ref aA_refused, .ref aA_heardBy])), (aA_refused, .inl (gI G, 3, .inl A_refused)), (aN, .inr (0, [.int N_width, .int N_height, .long N_everywhere, .long N_firstColumn, .long N_lastColumn, .ref aN_grounds, .ref aN_airs, .ref aN_tolds, .ref aN_fees, .ref aN_lets, .int N_makers, .ref aN_kinds, .ref aN_cells, .ref aN_selves, .ref aN_cries, .int N_leaves, .ref aN_parts, .int N_pasts, .ref aN_past])), (aN_grounds, .inl (gJ G, 3, .inr (.inl N_grounds))), (aN_airs, .inl (gJ G, 6, .inr (.inl N_airs))), (aN_kinds, .inl (gI G, 6, .inl N_kinds)), (aN_cells, .inl (gI G, 6, .inl N_cells)), (aN_selves, .inl (gI G, 6, .inl N_selves)), (aN_parts, .inl (gI G, 40, .inl N_parts)), (aS, .inr (2, [.ref aN, .int x21, .int x22, .int x23, .int x24, .int x25, .ref aS_may, .ref aS_ways, .ref aS_echo, .ref aS_echoes, .long x30, .long x31])), (aS_may, .inl (gJ G, 21, .inr (.inl x26))), (aS_ways, .inl (gJ G, 21, .inr (.inl x27))), (aS_echo, .inl (gJ G, 21, .inr (.inl x28))), (aS_echoes, .inl (gJ G, 21, .inr (.inl x29)))]) (stk := []) (rest := []) (As := [.int p1, .int p2, .int x8]) (q0 := 0) C hE hW (c_Ai_makeSound l G aA aA_images aA_kept aA_refused aA_heardBy aN aN_grounds aN_airs aN_tolds aN_fees aN_lets aN_kinds aN_cells aN_selves aN_cries aN_parts aN_past aS aS_may aS_ways aS_echo aS_echoes A_draft A_reader N_width N_height N_everywhere N_firstColumn N_lastColumn N_makers N_leaves N_pasts x9 x10 x11 x12 x13 x14 x19 x20 N_grounds N_airs N_kinds N_cells N_selves N_parts x15 x16 x17 x18 p1 p2 x8 hc32) cv_Ai_makeSound tw558 hl rfl rfl (Nat.le_of_ble_eq_true rfl) rfl rfl rfl ⟨Nat.le_of_ble_eq_true rfl, Nat.le_of_ble_eq_true rfl⟩ ⟨Nat.zero_le _, Nat.zero_le _⟩ [0, 2, 3, 4, 5, 6, 7, 8, 9, 10, 11, 12, 13] [1] [1, 0, 2, 3, 4, 5, 6, 7, 8, 9, 10, 11, 12, 13] rfl rfl rfl (by decide) rfl rfl rfl rfl d_Ai_first_41 (fun H locs hW => ?_)
          refine lv_aload_n C.1.1 C.1.2.1 d_Ai_first_44 rfl (lv_at hl 0 rfl) ?_
          refine x_get C hE hW fl_Ai_32 0 rfl rfl d_Ai_first_45 ?_
          refine x_get C hE hW fl_Ai_147 9 rfl rfl d_Ai_first_48 ?_
          refine lv_iload C.1.1 C.1.2.1 d_Ai_first_51 (lv_at hl 3 rfl) ?_
          obtain ⟨x33, hc34, h⟩ := bd_at h
          refine x_callS (ws' := [(aA, .inr (3, [.ref aN, .ref A_draft, .ref aA_images, .ref aA_kept, .ref aS, .ref A_reader, .ref aA_refused, .ref aA_heardBy])), (aA_refused, .inl (gI G, 3, .inl A_refused)), (aN, .inr (0, [.int N_width, .int N_height, .long N_everywhere, .long N_firstColumn, .long N_lastColumn, .ref aN_grounds, .ref aN_airs, .ref aN_tolds, .ref aN_fees, .ref aN_lets, .int N_makers, .ref aN_kinds, .ref aN_cells, .ref aN_selves, .ref aN_cries, .int N_leaves, .ref aN_parts, .int N_pasts, .ref aN_past])), (aN_grounds, .inl (gJ G, 3, .inr (.inl N_grounds))), (aN_airs, .inl (gJ G, 6, .inr (.inl N_airs))), (aN_kinds, .inl (gI G, 6, .inl N_kinds)), (aN_cells, .inl (gI G, 6, .inl N_cells)), (aN_selves, .inl (gI G, 6, .inl N_selves)), (aN_parts, .inl (gI G, 40, .inl N_parts)), (aS, .inr (2, [.ref aN, .int x21, .int x22, .int x23, .int x24, .int x25, .ref aS_may, .ref aS_ways, .ref aS_echo, .ref aS_echoes, .long x30, .long x31])), (aS_may, .inl (gJ G, 21, .inr (.inl x26))), (aS_ways, .inl (gJ G, 21, .inr (.inl x27))), (aS_echo, .inl (gJ G, 21, .inr (.inl x28))), (aS_echoes, .inl (gJ G, 21, .inr (.inl x29)))]) (stk := [.int x33]) (rest := []) (As := [.long x31, .int p4]) C hE hW (c_Ai_hasCell l G x31 p4 hc34) cv_Ai_hasCell tw668 hl rfl rfl (Nat.le_of_ble_eq_true rfl) ⟨Nat.le_of_ble_eq_true rfl, Nat.le_of_ble_eq_true rfl⟩ ⟨Nat.zero_le _, Nat.zero_le _⟩ [] [0, 1, 2, 3, 4, 5, 6, 7, 8, 9, 10, 11, 12, 13] [0, 1, 2, 3, 4, 5, 6, 7, 8, 9, 10, 11, 12, 13] rfl rfl rfl (by decide) rfl rfl rfl rfl d_Ai_first_53 (fun H locs hW => ?_)
          refine lv_if_eq (tgt := 62) C.1.1 C.1.2.1 d_Ai_first_56 (by decide) (fun cc => ?_) (fun cc => ?_)
          · replace h := it_t cc h
            obtain ⟨x35, ex35⟩ : ∃ y : Int32, y = x8 + 1 := ⟨_, rfl⟩
            replace h := lt_at ex35 h
            refine lv_iinc (v := x35) (lv' := [(5, .int x35), (0, .ref aA), (1, .int p1), (2, .int p2), (4, .int p4)]) C.1.1 C.1.2.1 d_Ai_first_62 hl (k := 4) rfl (by rw [ex35]; rfl) (by decide) rfl (fun ls hl => ?_)
            refine lv_goto (tgt := 29) C.1.1 C.1.2.1 d_Ai_first_65 (by decide) ?_
            exact ih29 _ h _ _ _ hW (lv_sub hl [1, 2, 3, 4, 0] rfl)
          · replace h := it_f cc h
            refine lv_iload C.1.1 C.1.2.1 d_Ai_first_59 (lv_at hl 4 rfl) ?_
            obtain rfl := Option.some.inj h
            exact x_iret C hW rfl rfl hQ d_Ai_first_61
      · replace h := it_t cc h
        exact hJ19 _ h _ _ _ hW (lv_sub hl [0] rfl)
set_option maxHeartbeats 4000000 in
set_option maxRecDepth 100000 in
theorem c_Ai_peal (l : Launch) (G : Gl) (aA : Nat) (aA_images : Nat) (aA_kept : Nat) (aA_refused : Nat) (aA_heardBy : Nat) (aN : Nat) (aN_grounds : Nat) (aN_airs : Nat) (aN_tolds : Nat) (aN_fees : Nat) (aN_lets : Nat) (aN_kinds : Nat) (aN_cells : Nat) (aN_selves : Nat) (aN_cries : Nat) (aN_parts : Nat) (aN_past : Nat) (aS : Nat) (aS_may : Nat) (aS_ways : Nat) (aS_echo : Nat) (aS_echoes : Nat) (A_draft : Nat) (A_reader : Nat) (N_width : Int32) (N_height : Int32) (N_everywhere : Int64) (N_firstColumn : Int64) (N_lastColumn : Int64) (N_makers : Int32) (N_leaves : Int32) (N_pasts : Int32) (S_land : Nat) (S_maker : Int32) (S_loud : Int32) (S_hour : Int32) (S_bought : Int32) (S_gone : Int32) (S_straight : Int64) (S_all : Int64) (A_refused : Nat → Int32) (N_grounds : Nat → Int64) (N_airs : Nat → Int64) (N_kinds : Nat → Int32) (N_cells : Nat → Int32) (N_selves : Nat → Int32) (N_parts : Nat → Int32) (S_may : Nat → Int64) (S_ways : Nat → Int64) (S_echo : Nat → Int64) (S_echoes : Nat → Int64) (p1 : Int32) (p2 : Int32) (p3 : Int32) {res : Int32 × (Nat → Int32) × Nat × Int32 × Int32 × Int32 × Int32 × Int32 × (Nat → Int64) × (Nat → Int64) × (Nat → Int64) × (Nat → Int64) × Int64 × Int64} (h : f_Ai_peal aN N_width N_everywhere N_firstColumn N_lastColumn N_makers N_leaves S_land S_maker S_loud S_hour S_bought S_gone S_straight S_all A_refused N_grounds N_airs N_kinds N_cells N_selves N_parts S_may S_ways S_echo S_echoes p1 p2 p3 = some res) : Ct l y_Ai_peal b_Ai_peal 8 (some .int) 6 152 G [.ref aA, .int p1, .int p2, .int p3] [(aA, .inr (3, [.ref aN, .ref A_draft, .ref aA_images, .ref aA_kept, .ref aS, .ref A_reader, .ref aA_refused, .ref aA_heardBy])), (aA_refused, .inl (gI G, 3, .inl A_refused)), (aN, .inr (0, [.int N_width, .int N_height, .long N_everywhere, .long N_firstColumn, .long N_lastColumn, .ref aN_grounds, .ref aN_airs, .ref aN_tolds, .ref aN_fees, .ref aN_lets, .int N_makers, .ref aN_kinds, .ref aN_cells, .ref aN_selves, .ref aN_cries, .int N_leaves, .ref aN_parts, .int N_pasts, .ref aN_past])), (aN_grounds, .inl (gJ G, 3, .inr (.inl N_grounds))), (aN_airs, .inl (gJ G, 6, .inr (.inl N_airs))), (aN_kinds, .inl (gI G, 6, .inl N_kinds)), (aN_cells, .inl (gI G, 6, .inl N_cells)), (aN_selves, .inl (gI G, 6, .inl N_selves)), (aN_parts, .inl (gI G, 40, .inl N_parts)), (aS, .inr (2, [.ref S_land, .int S_maker, .int S_loud, .int S_hour, .int S_bought, .int S_gone, .ref aS_may, .ref aS_ways, .ref aS_echo, .ref aS_echoes, .long S_straight, .long S_all])), (aS_may, .inl (gJ G, 21, .inr (.inl S_may))), (aS_ways, .inl (gJ G, 21, .inr (.inl S_ways))), (aS_echo, .inl (gJ G, 21, .inr (.inl S_echo))), (aS_echoes, .inl (gJ G, 21, .inr (.inl S_echoes)))] (some (.int res.1)) [(aA, .inr (3, [.ref aN, .ref A_draft, .ref aA_images, .ref aA_kept, .ref aS, .ref A_reader, .ref aA_refused, .ref aA_heardBy])), (aA_refused, .inl (gI G, 3, .inl (res.2.1))), (aN, .inr (0, [.int N_width, .int N_height, .long N_everywhere, .long N_firstColumn, .long N_lastColumn, .ref aN_grounds, .ref aN_airs, .ref aN_tolds, .ref aN_fees, .ref aN_lets, .int N_makers, .ref aN_kinds, .ref aN_cells, .ref aN_selves, .ref aN_cries, .int N_leaves, .ref aN_parts, .int N_pasts, .ref aN_past])), (aN_grounds, .inl (gJ G, 3, .inr (.inl N_grounds))), (aN_airs, .inl (gJ G, 6, .inr (.inl N_airs))), (aN_kinds, .inl (gI G, 6, .inl N_kinds)), (aN_cells, .inl (gI G, 6, .inl N_cells)), (aN_selves, .inl (gI G, 6, .inl N_selves)), (aN_parts, .inl (gI G, 40, .inl N_parts)), (aS, .inr (2, [.ref (res.2.2.1), .int (res.2.2.2.1), .int (res.2.2.2.2.1), .int (res.2.2.2.2.2.1), .int (res.2.2.2.2.2.2.1), .int (res.2.2.2.2.2.2.2.1), .ref aS_may, .ref aS_ways, .ref aS_echo, .ref aS_echoes, .long (res.2.2.2.2.2.2.2.2.2.2.2.2.1), .long (res.2.2.2.2.2.2.2.2.2.2.2.2.2)])), (aS_may, .inl (gJ G, 21, .inr (.inl (res.2.2.2.2.2.2.2.2.1)))), (aS_ways, .inl (gJ G, 21, .inr (.inl (res.2.2.2.2.2.2.2.2.2.1)))), (aS_echo, .inl (gJ G, 21, .inr (.inl (res.2.2.2.2.2.2.2.2.2.2.1)))), (aS_echoes, .inl (gJ G, 21, .inr (.inl (res.2.2.2.2.2.2.2.2.2.2.2.1))))] := by
  refine Ct.mk (by decide) (Nat.le_of_ble_eq_true rfl) ?_
  intro p e s m args below meth c ls A Q C hE hW hl hQ
  have C : Cx p s args m c meth "LentAir" y_Ai_peal b_Ai_peal 8 (some .int) := C
  have hl : lv_has ls 8 [(0, .ref aA), (1, .int p1), (2, .int p2), (3, .int p3)] := hl
  unfold f_Ai_peal at h
  refine lv_aload_n C.1.1 C.1.2.1 d_Ai_peal_0 rfl (lv_at hl 0 rfl) ?_
  refine lv_iload_n C.1.1 C.1.2.1 d_Ai_peal_1 rfl (lv_at hl 1 rfl) ?_
  obtain ⟨x1, hc2, h⟩ := bd_at h
  refine x_callV (ws' := [(aA, .inr (3, [.ref aN, .ref A_draft, .ref aA_images, .ref aA_kept, .ref aS, .ref A_reader, .ref aA_refused, .ref aA_heardBy])), (aA_refused, .inl (gI G, 3, .inl A_refused)), (aN, .inr (0, [.int N_width, .int N_height, .long N_everywhere, .long N_firstColumn, .long N_lastColumn, .ref aN_grounds, .ref aN_airs, .ref aN_tolds, .ref aN_fees, .ref aN_lets, .int N_makers, .ref aN_kinds, .ref aN_cells, .ref aN_selves, .ref aN_cries, .int N_leaves, .ref aN_parts, .int N_pasts, .ref aN_past])), (aN_grounds, .inl (gJ G, 3, .inr (.inl N_grounds))), (aN_airs, .inl (gJ G, 6, .inr (.inl N_airs))), (aN_kinds, .inl (gI G, 6, .inl N_kinds)), (aN_cells, .inl (gI G, 6, .inl N_cells)), (aN_selves, .inl (gI G, 6, .inl N_selves)), (aN_parts, .inl (gI G, 40, .inl N_parts)), (aS, .inr (2, [.ref S_land, .int S_maker, .int S_loud, .int S_hour, .int S_bought, .int S_gone, .ref aS_may, .ref aS_ways, .ref aS_echo, .ref aS_echoes, .long S_straight, .long S_all])), (aS_may, .inl (gJ G, 21, .inr (.inl S_may))), (aS_ways, .inl (gJ G, 21, .inr (.inl S_ways))), (aS_echo, .inl (gJ G, 21, .inr (.inl S_echo))), (aS_echoes, .inl (gJ G, 21, .inr (.inl S_echoes)))]) (stk := [.int x1]) (rest := []) (As := [.int p1]) (q0 := 0) C hE hW (c_Ai_isMaker l G aA aA_images aA_kept aA_refused aA_heardBy aN aN_grounds aN_airs aN_tolds aN_fees aN_lets aN_kinds aN_cells aN_selves aN_cries aN_parts aN_past A_draft aS A_reader N_width N_height N_everywhere N_firstColumn N_lastColumn N_makers N_leaves N_pasts p1 hc2) cv_Ai_isMaker tw358 hl rfl rfl (Nat.le_of_ble_eq_true rfl) rfl rfl rfl ⟨Nat.le_of_ble_eq_true rfl, Nat.le_of_ble_eq_true rfl⟩ ⟨Nat.zero_le _, Nat.zero_le _⟩ [0, 2] [1, 3, 4, 5, 6, 7, 8, 9, 10, 11, 12, 13] [12, 0, 13, 1, 2, 3, 4, 5, 6, 7, 8, 9, 10, 11] rfl rfl rfl (by decide) rfl rfl rfl rfl d_Ai_peal_2 (fun H locs hW => ?_)
  refine jn_at (P := fun (_ : Unit) => ∀ (H : Heap) (locs : List Loc) (ls : Array Slot), Wd G A s.heap H locs [(aA, .inr (3, [.ref aN, .ref A_draft, .ref aA_images, .ref aA_kept, .ref aS, .ref A_reader, .ref aA_refused, .ref aA_heardBy])), (aA_refused, .inl (gI G, 3, .inl A_refused)), (aN, .inr (0, [.int N_width, .int N_height, .long N_everywhere, .long N_firstColumn, .long N_lastColumn, .ref aN_grounds, .ref aN_airs, .ref aN_tolds, .ref aN_fees, .ref aN_lets, .int N_makers, .ref aN_kinds, .ref aN_cells, .ref aN_selves, .ref aN_cries, .int N_leaves, .ref aN_parts, .int N_pasts, .ref aN_past])), (aN_grounds, .inl (gJ G, 3, .inr (.inl N_grounds))), (aN_airs, .inl (gJ G, 6, .inr (.inl N_airs))), (aN_kinds, .inl (gI G, 6, .inl N_kinds)), (aN_cells, .inl (gI G, 6, .inl N_cells)), (aN_selves, .inl (gI G, 6, .inl N_selves)), (aN_parts, .inl (gI G, 40, .inl N_parts)), (aS, .inr (2, [.ref S_land, .int S_maker, .int S_loud, .int S_hour, .int S_bought, .int S_gone, .ref aS_may, .ref aS_ways, .ref aS_echo, .ref aS_echoes, .long S_straight, .long S_all])), (aS_may, .inl (gJ G, 21, .inr (.inl S_may))), (aS_ways, .inl (gJ G, 21, .inr (.inl S_ways))), (aS_echo, .inl (gJ G, 21, .inr (.inl S_echo))), (aS_echoes, .inl (gJ G, 21, .inr (.inl S_echoes)))] → lv_has ls 8 [(0, .ref aA)] → W p l e (RM 6 152) s m args below meth c H locs 0 0 Q (F0 m 22 ls [])) h ?_ ?_
  · skip
    intro _ h
    intro H locs ls hW hl
    refine lv_aload_n C.1.1 C.1.2.1 d_Ai_peal_22 rfl (lv_at hl 0 rfl) ?_
    refine lv_bipush (v := (-2)) C.1.1 C.1.2.1 d_Ai_peal_23 (by decide) ?_
    obtain ⟨⟨x3, x4⟩, hc5, h⟩ := bd_at h
    refine x_callV (ws' := [(aA, .inr (3, [.ref aN, .ref A_draft, .ref aA_images, .ref aA_kept, .ref aS, .ref A_reader, .ref aA_refused, .ref aA_heardBy])), (aA_refused, .inl (gI G, 3, .inl x4)), (aN, .inr (0, [.int N_width, .int N_height, .long N_everywhere, .long N_firstColumn, .long N_lastColumn, .ref aN_grounds, .ref aN_airs, .ref aN_tolds, .ref aN_fees, .ref aN_lets, .int N_makers, .ref aN_kinds, .ref aN_cells, .ref aN_selves, .ref aN_cries, .int N_leaves, .ref aN_parts, .int N_pasts, .ref aN_past])), (aN_grounds, .inl (gJ G, 3, .inr (.inl N_grounds))), (aN_airs, .inl (gJ G, 6, .inr (.inl N_airs))), (aN_kinds, .inl (gI G, 6, .inl N_kinds)), (aN_cells, .inl (gI G, 6, .inl N_cells)), (aN_selves, .inl (gI G, 6, .inl N_selves)), (aN_parts, .inl (gI G, 40, .inl N_parts)), (aS, .inr (2, [.ref S_land, .int S_maker, .int S_loud, .int S_hour, .int S_bought, .int S_gone, .ref aS_may, .ref aS_ways, .ref aS_echo, .ref aS_echoes, .long S_straight, .long S_all])), (aS_may, .inl (gJ G, 21, .inr (.inl S_may))), (aS_ways, .inl (gJ G, 21, .inr (.inl S_ways))), (aS_echo, .inl (gJ G, 21, .inr (.inl S_echo))), (aS_echoes, .inl (gJ G, 21, .inr (.inl S_echoes)))]) (stk := [.int x3]) (rest := []) (As := [.int (-2)]) (q0 := 0) C hE hW (c_Ai_refuse l G aA aA_images aA_kept aA_refused aA_heardBy aN A_draft aS A_reader A_refused (-2) hc5) cv_Ai_refuse tw308 hl rfl rfl (Nat.le_of_ble_eq_true rfl) rfl rfl rfl ⟨Nat.le_of_ble_eq_true rfl, Nat.le_of_ble_eq_true rfl⟩ ⟨Nat.zero_le _, Nat.zero_le _⟩ [0, 1] [2, 3, 4, 5, 6, 7, 8, 9, 10, 11, 12, 13] [12, 13, 0, 1, 2, 3, 4, 5, 6, 7, 8, 9, 10, 11] rfl rfl rfl (by decide) rfl rfl rfl rfl d_Ai_peal_25 (fun H locs hW => ?_)
    obtain rfl := Option.some.inj h
    exact x_iret C hW rfl rfl hQ d_Ai_peal_28
  · intro J22 hJ22 h
    refine lv_if_eq (tgt := 22) C.1.1 C.1.2.1 d_Ai_peal_5 (by decide) (fun cc => ?_) (fun cc => ?_)
    · replace h := it_t cc h
      exact hJ22 _ h _ _ _ hW (lv_sub hl [0] rfl)
    · replace h := it_f cc h
      refine lv_iload_n C.1.1 C.1.2.1 d_Ai_peal_8 rfl (lv_at hl 2 rfl) ?_
      obtain ⟨x6, hc7, h⟩ := bd_at h
      refine x_callS (ws' := [(aA, .inr (3, [.ref aN, .ref A_draft, .ref aA_images, .ref aA_kept, .ref aS, .ref A_reader, .ref aA_refused, .ref aA_heardBy])), (aA_refused, .inl (gI G, 3, .inl A_refused)), (aN, .inr (0, [.int N_width, .int N_height, .long N_everywhere, .long N_firstColumn, .long N_lastColumn, .ref aN_grounds, .ref aN_airs, .ref aN_tolds, .ref aN_fees, .ref aN_lets, .int N_makers, .ref aN_kinds, .ref aN_cells, .ref aN_selves, .ref aN_cries, .int N_leaves, .ref aN_parts, .int N_pasts, .ref aN_past])), (aN_grounds, .inl (gJ G, 3, .inr (.inl N_grounds))), (aN_airs, .inl (gJ G, 6, .inr (.inl N_airs))), (aN_kinds, .inl (gI G, 6, .inl N_kinds)), (aN_cells, .inl (gI G, 6, .inl N_cells)), (aN_selves, .inl (gI G, 6, .inl N_selves)), (aN_parts, .inl (gI G, 40, .inl N_parts)), (aS, .inr (2, [.ref S_land, .int S_maker, .int S_loud, .int S_hour, .int S_bought, .int S_gone, .ref aS_may, .ref aS_ways, .ref aS_echo, .ref aS_echoes, .long S_straight, .long S_all])), (aS_may, .inl (gJ G, 21, .inr (.inl S_may))), (aS_ways, .inl (gJ G, 21, .inr (.inl S_ways))), (aS_echo, .inl (gJ G, 21, .inr (.inl S_echo))), (aS_echoes, .inl (gJ G, 21, .inr (.inl S_echoes)))]) (stk := [.int x6]) (rest := []) (As := [.int p2]) C hE hW (c_Ai_isHour l G p2 hc7) cv_Ai_isHour tw362 hl rfl rfl (Nat.le_of_ble_eq_true rfl) ⟨Nat.le_of_ble_eq_true rfl, Nat.le_of_ble_eq_true rfl⟩ ⟨Nat.zero_le _, Nat.zero_le _⟩ [] [0, 1, 2, 3, 4, 5, 6, 7, 8, 9, 10, 11, 12, 13] [0, 1, 2, 3, 4, 5, 6, 7, 8, 9, 10, 11, 12, 13] rfl rfl rfl (by decide) rfl rfl rfl rfl d_Ai_peal_9 (fun H locs hW => ?_)
      refine lv_if_eq (tgt := 22) C.1.1 C.1.2.1 d_Ai_peal_12 (by decide) (fun cc => ?_) (fun cc => ?_)
      · replace h := it_t cc h
        exact hJ22 _ h _ _ _ hW (lv_sub hl [0] rfl)
      · replace h := it_f cc h
        refine lv_iload_n C.1.1 C.1.2.1 d_Ai_peal_15 rfl (lv_at hl 3 rfl) ?_
        obtain ⟨x8, hc9, h⟩ := bd_at h
        refine x_callS (ws' := [(aA, .inr (3, [.ref aN, .ref A_draft, .ref aA_images, .ref aA_kept, .ref aS, .ref A_reader, .ref aA_refused, .ref aA_heardBy])), (aA_refused, .inl (gI G, 3, .inl A_refused)), (aN, .inr (0, [.int N_width, .int N_height, .long N_everywhere, .long N_firstColumn, .long N_lastColumn, .ref aN_grounds, .ref aN_airs, .ref aN_tolds, .ref aN_fees, .ref aN_lets, .int N_makers, .ref aN_kinds, .ref aN_cells, .ref aN_selves, .ref aN_cries, .int N_leaves, .ref aN_parts, .int N_pasts, .ref aN_past])), (aN_grounds, .inl (gJ G, 3, .inr (.inl N_grounds))), (aN_airs, .inl (gJ G, 6, .inr (.inl N_airs))), (aN_kinds, .inl (gI G, 6, .inl N_kinds)), (aN_cells, .inl (gI G, 6, .inl N_cells)), (aN_selves, .inl (gI G, 6, .inl N_selves)), (aN_parts, .inl (gI G, 40, .inl N_parts)), (aS, .inr (2, [.ref S_land, .int S_maker, .int S_loud, .int S_hour, .int S_bought, .int S_gone, .ref aS_may, .ref aS_ways, .ref aS_echo, .ref aS_echoes, .long S_straight, .long S_all])), (aS_may, .inl (gJ G, 21, .inr (.inl S_may))), (aS_ways, .inl (gJ G, 21, .inr (.inl S_ways))), (aS_echo, .inl (gJ G, 21, .inr (.inl S_echo))), (aS_echoes, .inl (gJ G, 21, .inr (.inl S_echoes)))]) (stk := [.int x8]) (rest := []) (As := [.int p3]) C hE hW (c_Ai_isEither l G p3 hc9) cv_Ai_isEither tw690 hl rfl rfl (Nat.le_of_ble_eq_true rfl) ⟨Nat.le_of_ble_eq_true rfl, Nat.le_of_ble_eq_true rfl⟩ ⟨Nat.zero_le _, Nat.zero_le _⟩ [] [0, 1, 2, 3, 4, 5, 6, 7, 8, 9, 10, 11, 12, 13] [0, 1, 2, 3, 4, 5, 6, 7, 8, 9, 10, 11, 12, 13] rfl rfl rfl (by decide) rfl rfl rfl rfl d_Ai_peal_16 (fun H locs hW => ?_)
        refine lv_if_ne (tgt := 29) C.1.1 C.1.2.1 d_Ai_peal_19 (by decide) (fun cc => ?_) (fun cc => ?_)
        · replace h := it_f cc h
          refine lv_iconst (v := 0) C.1.1 C.1.2.1 d_Ai_peal_29 (by decide) ?_
          refine lv_istore (lv' := [(4, .int 0), (0, .ref aA), (1, .int p1), (2, .int p2), (3, .int p3)]) C.1.1 C.1.2.1 d_Ai_peal_30 hl (by decide) rfl (fun ls hl => ?_)
          refine lv_iconst (v := 0) C.1.1 C.1.2.1 d_Ai_peal_32 (by decide) ?_
          refine lv_istore (lv' := [(5, .int 0), (4, .int 0), (0, .ref aA), (1, .int p1), (2, .int p2), (3, .int p3)]) C.1.1 C.1.2.1 d_Ai_peal_33 hl (by decide) rfl (fun ls hl => ?_)
          refine lv_iconst (v := 1) C.1.1 C.1.2.1 d_Ai_peal_35 (by decide) ?_
          refine lv_istore (lv' := [(6, .int 1), (5, .int 0), (4, .int 0), (0, .ref aA), (1, .int p1), (2, .int p2), (3, .int p3)]) C.1.1 C.1.2.1 d_Ai_peal_36 hl (by decide) rfl (fun ls hl => ?_)
          refine jn_at (P := fun ((x10, x11, x12, x13, x14, x15, x16, x17, x18, x19, x20, x21, x22, x23) : Int32 × Int32 × Nat × Int32 × Int32 × Int32 × Int32 × Int32 × (Nat → Int64) × (Nat → Int64) × (Nat → Int64) × (Nat → Int64) × Int64 × Int64) => ∀ (H : Heap) (locs : List Loc) (ls : Array Slot), Wd G A s.heap H locs [(aA, .inr (3, [.ref aN, .ref A_draft, .ref aA_images, .ref aA_kept, .ref aS, .ref A_reader, .ref aA_refused, .ref aA_heardBy])), (aA_refused, .inl (gI G, 3, .inl A_refused)), (aN, .inr (0, [.int N_width, .int N_height, .long N_everywhere, .long N_firstColumn, .long N_lastColumn, .ref aN_grounds, .ref aN_airs, .ref aN_tolds, .ref aN_fees, .ref aN_lets, .int N_makers, .ref aN_kinds, .ref aN_cells, .ref aN_selves, .ref aN_cries, .int N_leaves, .ref aN_parts, .int N_pasts, .ref aN_past])), (aN_grounds, .inl (gJ G, 3, .inr (.inl N_grounds))), (aN_airs, .inl (gJ G, 6, .inr (.inl N_airs))), (aN_kinds, .inl (gI G, 6, .inl N_kinds)), (aN_cells, .inl (gI G, 6, .inl N_cells)), (aN_selves, .inl (gI G, 6, .inl N_selves)), (aN_parts, .inl (gI G, 40, .inl N_parts)), (aS, .inr (2, [.ref x12, .int x13, .int x14, .int x15, .int x16, .int x17, .ref aS_may, .ref aS_ways, .ref aS_echo, .ref aS_echoes, .long x22, .long x23])), (aS_may, .inl (gJ G, 21, .inr (.inl x18))), (aS_ways, .inl (gJ G, 21, .inr (.inl x19))), (aS_echo, .inl (gJ G, 21, .inr (.inl x20))), (aS_echoes, .inl (gJ G, 21, .inr (.inl x21)))] → lv_has ls 8 [(3, .int p3), (4, .int x10), (5, .int x11)] → W p l e (RM 6 152) s m args below meth c H locs 0 0 Q (F0 m 86 ls [])) h ?_ ?_
          · skip
            intro x h
            obtain ⟨x10, x11, x12, x13, x14, x15, x16, x17, x18, x19, x20, x21, x22, x23⟩ := x
            intro H locs ls hW hl
            refine lv_iload_n C.1.1 C.1.2.1 d_Ai_peal_86 rfl (lv_at hl 0 rfl) ?_
            refine lv_if_ne (tgt := 95) C.1.1 C.1.2.1 d_Ai_peal_87 (by decide) (fun cc => ?_) (fun cc => ?_)
            · replace h := it_f cc h
              refine lv_iload C.1.1 C.1.2.1 d_Ai_peal_95 (lv_at hl 2 rfl) ?_
              obtain rfl := Option.some.inj h
              exact x_iret C hW rfl rfl hQ d_Ai_peal_97
            · replace h := it_t cc h
              refine lv_iload C.1.1 C.1.2.1 d_Ai_peal_90 (lv_at hl 1 rfl) ?_
              refine lv_goto (tgt := 97) C.1.1 C.1.2.1 d_Ai_peal_92 (by decide) ?_
              obtain rfl := Option.some.inj h
              exact x_iret C hW rfl rfl hQ d_Ai_peal_97
          · intro J86 hJ86 h
            refine lp_at (P := fun ((x24, x25, x26, x27, x28, x29, x30, x31, x32, x33, x34, x35, x36, x37, x38) : Int32 × Int32 × Int32 × Nat × Int32 × Int32 × Int32 × Int32 × Int32 × (Nat → Int64) × (Nat → Int64) × (Nat → Int64) × (Nat → Int64) × Int64 × Int64) => ∀ (H : Heap) (locs : List Loc) (ls : Array Slot), Wd G A s.heap H locs [(aA, .inr (3, [.ref aN, .ref A_draft, .ref aA_images, .ref aA_kept, .ref aS, .ref A_reader, .ref aA_refused, .ref aA_heardBy])), (aA_refused, .inl (gI G, 3, .inl A_refused)), (aN, .inr (0, [.int N_width, .int N_height, .long N_everywhere, .long N_firstColumn, .long N_lastColumn, .ref aN_grounds, .ref aN_airs, .ref aN_tolds, .ref aN_fees, .ref aN_lets, .int N_makers, .ref aN_kinds, .ref aN_cells, .ref aN_selves, .ref aN_cries, .int N_leaves, .ref aN_parts, .int N_pasts, .ref aN_past])), (aN_grounds, .inl (gJ G, 3, .inr (.inl N_grounds))), (aN_airs, .inl (gJ G, 6, .inr (.inl N_airs))), (aN_kinds, .inl (gI G, 6, .inl N_kinds)), (aN_cells, .inl (gI G, 6, .inl N_cells)), (aN_selves, .inl (gI G, 6, .inl N_selves)), (aN_parts, .inl (gI G, 40, .inl N_parts)), (aS, .inr (2, [.ref x27, .int x28, .int x29, .int x30, .int x31, .int x32, .ref aS_may, .ref aS_ways, .ref aS_echo, .ref aS_echoes, .long x37, .long x38])), (aS_may, .inl (gJ G, 21, .inr (.inl x33))), (aS_ways, .inl (gJ G, 21, .inr (.inl x34))), (aS_echo, .inl (gJ G, 21, .inr (.inl x35))), (aS_echoes, .inl (gJ G, 21, .inr (.inl x36)))] → lv_has ls 8 [(0, .ref aA), (1, .int p1), (2, .int p2), (3, .int p3), (4, .int x24), (5, .int x25), (6, .int x26)] → W p l e (RM 6 152) s m args below meth c H locs 0 0 Q (F0 m 38 ls [])) ?_ FU _ h _ _ _ hW (lv_sub hl [3, 4, 5, 6, 2, 1, 0] rfl)
            clear h hl hW
            intro rec38 ih38
            intro x h
            obtain ⟨x24, x25, x26, x27, x28, x29, x30, x31, x32, x33, x34, x35, x36, x37, x38⟩ := x
            unfold f_Ai_peal_L38 at h
            intro H locs ls hW hl
            refine lv_iload C.1.1 C.1.2.1 d_Ai_peal_38 (lv_at hl 6 rfl) ?_
            refine lv_bipush (v := 20) C.1.1 C.1.2.1 d_Ai_peal_40 (by decide) ?_
            refine lv_icmp_gt (tgt := 86) C.1.1 C.1.2.1 d_Ai_peal_42 (by decide) (fun cc => ?_) (fun cc => ?_)
            · replace h := it_t cc h
              exact hJ86 _ h _ _ _ hW (lv_sub hl [3, 4, 5] rfl)
            · replace h := it_f cc h
              refine lv_aload_n C.1.1 C.1.2.1 d_Ai_peal_45 rfl (lv_at hl 0 rfl) ?_
              refine lv_iload_n C.1.1 C.1.2.1 d_Ai_peal_46 rfl (lv_at hl 1 rfl) ?_
              refine lv_iload C.1.1 C.1.2.1 d_Ai_peal_47 (lv_at hl 6 rfl) ?_
              refine lv_iload_n C.1.1 C.1.2.1 d_Ai_peal_49 rfl (lv_at hl 2 rfl) ?_
              obtain ⟨⟨x39, x40, x41, x42, x43, x44, x45, x46, x47, x48, x49⟩, hc50, h⟩ := bd_at h
              refine x_callV (ws' := [(aA, .inr (3, [.ref aN, .ref A_draft, .ref aA_images, .ref aA_kept, .ref aS, .ref A_reader, .ref aA_refused, .ref aA_heardBy])), (aA_refused, .inl (gI G, 3, .inl A_refused)), (aN, .inr (0, [.int N_width, .int N_height, .long N_everywhere, .long N_firstColumn, .long N_lastColumn, .ref aN_grounds, .ref aN_airs, .ref aN_tolds, .ref aN_fees, .ref aN_lets, .int N_makers, .ref aN_kinds, .ref aN_cells, .ref aN_selves, .ref aN_cries, .int N_leaves, .ref aN_parts, .int N_pasts, .ref aN_past])), (aN_grounds, .inl (gJ G, 3, .inr (.inl N_grounds))), (aN_airs, .inl (gJ G, 6, .inr (.inl N_airs))), (aN_kinds, .inl (gI G, 6, .inl N_kinds)), (aN_cells, .inl (gI G, 6, .inl N_cells)), (aN_selves, .inl (gI G, 6, .inl N_selves)), (aN_parts, .inl (gI G, 40, .inl N_parts)), (aS, .inr (2, [.ref aN, .int x39, .int x40, .int x41, .int x42, .int x43, .ref aS_may, .ref aS_ways, .ref aS_echo, .ref aS_echoes, .long x48, .long x49])), (aS_may, .inl (gJ G, 21, .inr (.inl x44))), (aS_ways, .inl (gJ G, 21, .inr (.inl x45))), (aS_echo, .inl (gJ G, 21, .inr (.inl x46))), (aS_echoes, .inl (gJ G, 21, .inr (.inl x47)))]) (stk := []) (rest := []) (As := [.int p1, .int x26, .int p2]) (q0 := 0) C hE hW (c_Ai_makeSound l G aA aA_images aA_kept aA_refused aA_heardBy aN aN_grounds aN_airs aN_tolds aN_fees aN_lets aN_kinds aN_cells aN_selves aN_cries aN_parts aN_past aS aS_may aS_ways aS_echo aS_echoes A_draft A_reader N_width N_height N_everywhere N_firstColumn N_lastColumn N_makers N_leaves N_pasts x27 x28 x29 x30 x31 x32 x37 x38 N_grounds N_airs N_kinds N_cells N_selves N_parts x33 x34 x35 x36 p1 x26 p2 hc50) cv_Ai_makeSound tw558 hl rfl rfl (Nat.le_of_ble_eq_true rfl) rfl rfl rfl ⟨Nat.le_of_ble_eq_true rfl, Nat.le_of_ble_eq_true rfl⟩ ⟨Nat.zero_le _, Nat.zero_le _⟩ [0, 2, 3, 4, 5, 6, 7, 8, 9, 10, 11, 12, 13] [1] [1, 0, 2, 3, 4, 5, 6, 7, 8, 9, 10, 11, 12, 13] rfl rfl rfl (by decide) rfl rfl rfl rfl d_Ai_peal_50 (fun H locs hW => ?_)
              refine lv_aload_n C.1.1 C.1.2.1 d_Ai_peal_53 rfl (lv_at hl 0 rfl) ?_
              refine x_get C hE hW fl_Ai_32 0 rfl rfl d_Ai_peal_54 ?_
              refine x_get C hE hW fl_Ai_147 9 rfl rfl d_Ai_peal_57 ?_
              obtain ⟨x51, hc52, h⟩ := bd_at h
              refine x_callS (ws' := [(aA, .inr (3, [.ref aN, .ref A_draft, .ref aA_images, .ref aA_kept, .ref aS, .ref A_reader, .ref aA_refused, .ref aA_heardBy])), (aA_refused, .inl (gI G, 3, .inl A_refused)), (aN, .inr (0, [.int N_width, .int N_height, .long N_everywhere, .long N_firstColumn, .long N_lastColumn, .ref aN_grounds, .ref aN_airs, .ref aN_tolds, .ref aN_fees, .ref aN_lets, .int N_makers, .ref aN_kinds, .ref aN_cells, .ref aN_selves, .ref aN_cries, .int N_leaves, .ref aN_parts, .int N_pasts, .ref aN_past])), (aN_grounds, .inl (gJ G, 3, .inr (.inl N_grounds))), (aN_airs, .inl (gJ G, 6, .inr (.inl N_airs))), (aN_kinds, .inl (gI G, 6, .inl N_kinds)), (aN_cells, .inl (gI G, 6, .inl N_cells)), (aN_selves, .inl (gI G, 6, .inl N_selves)), (aN_parts, .inl (gI G, 40, .inl N_parts)), (aS, .inr (2, [.ref aN, .int x39, .int x40, .int x41, .int x42, .int x43, .ref aS_may, .ref aS_ways, .ref aS_echo, .ref aS_echoes, .long x48, .long x49])), (aS_may, .inl (gJ G, 21, .inr (.inl x44))), (aS_ways, .inl (gJ G, 21, .inr (.inl x45))), (aS_echo, .inl (gJ G, 21, .inr (.inl x46))), (aS_echoes, .inl (gJ G, 21, .inr (.inl x47)))]) (stk := [.int x51]) (rest := []) (As := [.long x49]) C hE hW (c_JL_bitCount l G x49 hc52) cv_JL_bitCount tw641 hl rfl rfl (Nat.le_of_ble_eq_true rfl) ⟨Nat.le_of_ble_eq_true rfl, Nat.le_of_ble_eq_true rfl⟩ ⟨Nat.zero_le _, Nat.zero_le _⟩ [] [0, 1, 2, 3, 4, 5, 6, 7, 8, 9, 10, 11, 12, 13] [0, 1, 2, 3, 4, 5, 6, 7, 8, 9, 10, 11, 12, 13] rfl rfl rfl (by decide) rfl rfl rfl rfl d_Ai_peal_60 (fun H locs hW => ?_)
              refine lv_istore (lv' := [(7, .int x51), (0, .ref aA), (1, .int p1), (2, .int p2), (3, .int p3), (4, .int x24), (5, .int x25), (6, .int x26)]) C.1.1 C.1.2.1 d_Ai_peal_63 hl (by decide) rfl (fun ls hl => ?_)
              refine lv_iload C.1.1 C.1.2.1 d_Ai_peal_65 (lv_at hl 0 rfl) ?_
              refine lv_iload C.1.1 C.1.2.1 d_Ai_peal_67 (lv_at hl 6 rfl) ?_
              refine jn_at (P := fun ((x53, x54) : Int32 × Int32) => ∀ (H : Heap) (locs : List Loc) (ls : Array Slot), Wd G A s.heap H locs [(aA, .inr (3, [.ref aN, .ref A_draft, .ref aA_images, .ref aA_kept, .ref aS, .ref A_reader, .ref aA_refused, .ref aA_heardBy])), (aA_refused, .inl (gI G, 3, .inl A_refused)), (aN, .inr (0, [.int N_width, .int N_height, .long N_everywhere, .long N_firstColumn, .long N_lastColumn, .ref aN_grounds, .ref aN_airs, .ref aN_tolds, .ref aN_fees, .ref aN_lets, .int N_makers, .ref aN_kinds, .ref aN_cells, .ref aN_selves, .ref aN_cries, .int N_leaves, .ref aN_parts, .int N_pasts, .ref aN_past])), (aN_grounds, .inl (gJ G, 3, .inr (.inl N_grounds))), (aN_airs, .inl (gJ G, 6, .inr (.inl N_airs))), (aN_kinds, .inl (gI G, 6, .inl N_kinds)), (aN_cells, .inl (gI G, 6, .inl N_cells)), (aN_selves, .inl (gI G, 6, .inl N_selves)), (aN_parts, .inl (gI G, 40, .inl N_parts)), (aS, .inr (2, [.ref aN, .int x39, .int x40, .int x41, .int x42, .int x43, .ref aS_may, .ref aS_ways, .ref aS_echo, .ref aS_echoes, .long x48, .long x49])), (aS_may, .inl (gJ G, 21, .inr (.inl x44))), (aS_ways, .inl (gJ G, 21, .inr (.inl x45))), (aS_echo, .inl (gJ G, 21, .inr (.inl x46))), (aS_echoes, .inl (gJ G, 21, .inr (.inl x47)))] → lv_has ls 8 [(0, .ref aA), (1, .int p1), (2, .int p2), (3, .int p3), (4, .int x53), (5, .int x54), (6, .int x26)] → W p l e (RM 6 152) s m args below meth c H locs 0 0 Q (F0 m 80 ls [])) h ?_ ?_
              · skip
                intro x h
                obtain ⟨x53, x54⟩ := x
                intro H locs ls hW hl
                obtain ⟨x55, ex55⟩ : ∃ y : Int32, y = x26 + 1 := ⟨_, rfl⟩
                replace h := lt_at ex55 h
                refine lv_iinc (v := x55) (lv' := [(6, .int x55), (0, .ref aA), (1, .int p1), (2, .int p2), (3, .int p3), (4, .int x53), (5, .int x54)]) C.1.1 C.1.2.1 d_Ai_peal_80 hl (k := 6) rfl (by rw [ex55]; rfl) (by decide) rfl (fun ls hl => ?_)
                refine lv_goto (tgt := 38) C.1.1 C.1.2.1 d_Ai_peal_83 (by decide) ?_
                exact ih38 _ h _ _ _ hW (lv_sub hl [1, 2, 3, 4, 5, 6, 0] rfl)
              · intro J80 hJ80 h
                refine lv_icmp_le (tgt := 80) C.1.1 C.1.2.1 d_Ai_peal_69 (by decide) (fun cc => ?_) (fun cc => ?_)
                · replace h := it_t cc h
                  exact hJ80 _ h _ _ _ hW (lv_sub hl [1, 2, 3, 4, 5, 6, 7] rfl)
                · replace h := it_f cc h
                  refine lv_iload C.1.1 C.1.2.1 d_Ai_peal_72 (lv_at hl 7 rfl) ?_
                  refine lv_istore (lv' := [(4, .int x26), (7, .int x51), (0, .ref aA), (1, .int p1), (2, .int p2), (3, .int p3), (5, .int x25), (6, .int x26)]) C.1.1 C.1.2.1 d_Ai_peal_74 hl (by decide) rfl (fun ls hl => ?_)
                  refine lv_iload C.1.1 C.1.2.1 d_Ai_peal_76 (lv_at hl 1 rfl) ?_
                  refine lv_istore (lv' := [(5, .int x51), (4, .int x26), (7, .int x51), (0, .ref aA), (1, .int p1), (2, .int p2), (3, .int p3), (6, .int x26)]) C.1.1 C.1.2.1 d_Ai_peal_78 hl (by decide) rfl (fun ls hl => ?_)
                  exact hJ80 _ h _ _ _ hW (lv_sub hl [3, 4, 5, 6, 1, 0, 7] rfl)
        · replace h := it_t cc h
          exact hJ22 _ h _ _ _ hW (lv_sub hl [0] rfl)
set_option maxHeartbeats 4000000 in
set_option maxRecDepth 100000 in
theorem c_Ai_thunder (l : Launch) (G : Gl) (aA : Nat) (aA_images : Nat) (aA_kept : Nat) (aA_refused : Nat) (aA_heardBy : Nat) (aN : Nat) (aN_grounds : Nat) (aN_airs : Nat) (aN_tolds : Nat) (aN_fees : Nat) (aN_lets : Nat) (aN_kinds : Nat) (aN_cells : Nat) (aN_selves : Nat) (aN_cries : Nat) (aN_parts : Nat) (aN_past : Nat) (A_draft : Nat) (A_sound : Nat) (A_reader : Nat) (N_width : Int32) (N_height : Int32) (N_everywhere : Int64) (N_firstColumn : Int64) (N_lastColumn : Int64) (N_makers : Int32) (N_leaves : Int32) (N_pasts : Int32) (A_refused : Nat → Int32) (p1 : Int32) (p2 : Int32) {res : Int32 × (Nat → Int32)} (h : f_Ai_thunder N_width N_height N_everywhere N_firstColumn N_lastColumn A_refused p1 p2 = some res) : Ct l y_Ai_thunder b_Ai_thunder 14 (some .int) 2 44 G [.ref aA, .int p1, .int p2] [(aA, .inr (3, [.ref aN, .ref A_draft, .ref aA_images, .ref aA_kept, .ref A_sound, .ref A_reader, .ref aA_refused, .ref aA_heardBy])), (aA_refused, .inl (gI G, 3, .inl A_refused)), (aN, .inr (0, [.int N_width, .int N_height, .long N_everywhere, .long N_firstColumn, .long N_lastColumn, .ref aN_grounds, .ref aN_airs, .ref aN_tolds, .ref aN_fees, .ref aN_lets, .int N_makers, .ref aN_kinds, .ref aN_cells, .ref aN_selves, .ref aN_cries, .int N_leaves, .ref aN_parts, .int N_pasts, .ref aN_past]))] (some (.int res.1)) [(aA, .inr (3, [.ref aN, .ref A_draft, .ref aA_images, .ref aA_kept, .ref A_sound, .ref A_reader, .ref aA_refused, .ref aA_heardBy])), (aA_refused, .inl (gI G, 3, .inl (res.2))), (aN, .inr (0, [.int N_width, .int N_height, .long N_everywhere, .long N_firstColumn, .long N_lastColumn, .ref aN_grounds, .ref aN_airs, .ref aN_tolds, .ref aN_fees, .ref aN_lets, .int N_makers, .ref aN_kinds, .ref aN_cells, .ref aN_selves, .ref aN_cries, .int N_leaves, .ref aN_parts, .int N_pasts, .ref aN_past]))] := by
  refine Ct.mk (by decide) (Nat.le_of_ble_eq_true rfl) ?_
  intro p e s m args below meth c ls A Q C hE hW hl hQ
  have C : Cx p s args m c meth "LentAir" y_Ai_thunder b_Ai_thunder 14 (some .int) := C
  have hl : lv_has ls 14 [(0, .ref aA), (1, .int p1), (2, .int p2)] := hl
  unfold f_Ai_thunder at h
  refine lv_iload_n C.1.1 C.1.2.1 d_Ai_thunder_0 rfl (lv_at hl 1 rfl) ?_
  refine jn_at (P := fun (_ : Unit) => ∀ (H : Heap) (locs : List Loc) (ls : Array Slot), Wd G A s.heap H locs [(aA, .inr (3, [.ref aN, .ref A_draft, .ref aA_images, .ref aA_kept, .ref A_sound, .ref A_reader, .ref aA_refused, .ref aA_heardBy])), (aA_refused, .inl (gI G, 3, .inl A_refused)), (aN, .inr (0, [.int N_width, .int N_height, .long N_everywhere, .long N_firstColumn, .long N_lastColumn, .ref aN_grounds, .ref aN_airs, .ref aN_tolds, .ref aN_fees, .ref aN_lets, .int N_makers, .ref aN_kinds, .ref aN_cells, .ref aN_selves, .ref aN_cries, .int N_leaves, .ref aN_parts, .int N_pasts, .ref aN_past]))] → lv_has ls 14 [(0, .ref aA)] → W p l e (RM 2 44) s m args below meth c H locs 0 0 Q (F0 m 20 ls [])) h ?_ ?_
  · skip
    intro _ h
    intro H locs ls hW hl
    refine lv_aload_n C.1.1 C.1.2.1 d_Ai_thunder_20 rfl (lv_at hl 0 rfl) ?_
    refine lv_bipush (v := (-2)) C.1.1 C.1.2.1 d_Ai_thunder_21 (by decide) ?_
    obtain ⟨⟨x1, x2⟩, hc3, h⟩ := bd_at h
    refine x_callV (ws' := [(aA, .inr (3, [.ref aN, .ref A_draft, .ref aA_images, .ref aA_kept, .ref A_sound, .ref A_reader, .ref aA_refused, .ref aA_heardBy])), (aA_refused, .inl (gI G, 3, .inl x2)), (aN, .inr (0, [.int N_width, .int N_height, .long N_everywhere, .long N_firstColumn, .long N_lastColumn, .ref aN_grounds, .ref aN_airs, .ref aN_tolds, .ref aN_fees, .ref aN_lets, .int N_makers, .ref aN_kinds, .ref aN_cells, .ref aN_selves, .ref aN_cries, .int N_leaves, .ref aN_parts, .int N_pasts, .ref aN_past]))]) (stk := [.int x1]) (rest := []) (As := [.int (-2)]) (q0 := 0) C hE hW (c_Ai_refuse l G aA aA_images aA_kept aA_refused aA_heardBy aN A_draft A_sound A_reader A_refused (-2) hc3) cv_Ai_refuse tw308 hl rfl rfl (Nat.le_of_ble_eq_true rfl) rfl rfl rfl ⟨Nat.le_of_ble_eq_true rfl, Nat.le_of_ble_eq_true rfl⟩ ⟨Nat.zero_le _, Nat.zero_le _⟩ [0, 1] [2] [1, 2, 0] rfl rfl rfl (by decide) rfl rfl rfl rfl d_Ai_thunder_23 (fun H locs hW => ?_)
    obtain rfl := Option.some.inj h
    exact x_iret C hW rfl rfl hQ d_Ai_thunder_26
  · intro J20 hJ20 h
    refine lv_if_lt (tgt := 20) C.1.1 C.1.2.1 d_Ai_thunder_1 (by decide) (fun cc => ?_) (fun cc => ?_)
    · replace h := it_t cc h
      exact hJ20 _ h _ _ _ hW (lv_sub hl [0] rfl)
    · replace h := it_f cc h
      refine lv_iload_n C.1.1 C.1.2.1 d_Ai_thunder_4 rfl (lv_at hl 1 rfl) ?_
      refine lv_ldc (own := "LentAir") (v := 999999) C.1.1 C.1.2.1 C.1.2.2.2.1 (C.w tw767) d_Ai_thunder_5 ?_
      refine lv_icmp_gt (tgt := 20) C.1.1 C.1.2.1 d_Ai_thunder_7 (by decide) (fun cc => ?_) (fun cc => ?_)
      · replace h := it_t cc h
        exact hJ20 _ h _ _ _ hW (lv_sub hl [0] rfl)
      · replace h := it_f cc h
        refine lv_iload_n C.1.1 C.1.2.1 d_Ai_thunder_10 rfl (lv_at hl 2 rfl) ?_
        refine lv_if_lt (tgt := 20) C.1.1 C.1.2.1 d_Ai_thunder_11 (by decide) (fun cc => ?_) (fun cc => ?_)
        · replace h := it_t cc h
          exact hJ20 _ h _ _ _ hW (lv_sub hl [0] rfl)
        · replace h := it_f cc h
          refine lv_iload_n C.1.1 C.1.2.1 d_Ai_thunder_14 rfl (lv_at hl 2 rfl) ?_
          refine lv_bipush (v := 60) C.1.1 C.1.2.1 d_Ai_thunder_15 (by decide) ?_
          refine lv_icmp_le (tgt := 27) C.1.1 C.1.2.1 d_Ai_thunder_17 (by decide) (fun cc => ?_) (fun cc => ?_)
          · replace h := it_t cc h
            refine lv_aload_n C.1.1 C.1.2.1 d_Ai_thunder_27 rfl (lv_at hl 0 rfl) ?_
            refine x_get C hE hW fl_Ai_12 0 rfl rfl d_Ai_thunder_28 ?_
            refine x_get C hE hW fl_Ai_230 2 rfl rfl d_Ai_thunder_31 ?_
            refine lv_aload_n C.1.1 C.1.2.1 d_Ai_thunder_34 rfl (lv_at hl 0 rfl) ?_
            refine x_get C hE hW fl_Ai_12 0 rfl rfl d_Ai_thunder_35 ?_
            refine x_get C hE hW fl_Ai_233 2 rfl rfl d_Ai_thunder_38 ?_
            refine lv_imul C.1.1 C.1.2.1 d_Ai_thunder_41 ?_
            refine lv_topi (fun x4 ex4 => ?_)
            replace h := lt_at ex4 h
            refine lv_istore_n (lv' := [(3, .int x4), (0, .ref aA), (1, .int p1), (2, .int p2)]) C.1.1 C.1.2.1 d_Ai_thunder_42 rfl hl (by decide) rfl (fun ls hl => ?_)
            refine lv_lconst (v := 0) C.1.1 C.1.2.1 d_Ai_thunder_43 (by decide) ?_
            refine lv_lstore (lv' := [(4, .long 0), (3, .int x4), (0, .ref aA), (1, .int p1), (2, .int p2)]) C.1.1 C.1.2.1 d_Ai_thunder_44 hl (by decide) rfl (fun ls hl => ?_)
            refine lv_iload_n C.1.1 C.1.2.1 d_Ai_thunder_46 rfl (lv_at hl 3 rfl) ?_
            refine lv_i2l C.1.1 C.1.2.1 d_Ai_thunder_47 rfl ?_
            refine lv_topl (fun x5 ex5 => ?_)
            replace h := lt_at ex5 h
            refine lv_lstore (lv' := [(6, .long x5), (4, .long 0), (3, .int x4), (0, .ref aA), (1, .int p1), (2, .int p2)]) C.1.1 C.1.2.1 d_Ai_thunder_48 hl (by decide) rfl (fun ls hl => ?_)
            refine lv_iconst (v := 0) C.1.1 C.1.2.1 d_Ai_thunder_50 (by decide) ?_
            refine lv_istore (lv' := [(8, .int 0), (6, .long x5), (4, .long 0), (3, .int x4), (0, .ref aA), (1, .int p1), (2, .int p2)]) C.1.1 C.1.2.1 d_Ai_thunder_51 hl (by decide) rfl (fun ls hl => ?_)
            refine jn_at (P := fun (x6 : Int64) => ∀ (H : Heap) (locs : List Loc) (ls : Array Slot), Wd G A s.heap H locs [(aA, .inr (3, [.ref aN, .ref A_draft, .ref aA_images, .ref aA_kept, .ref A_sound, .ref A_reader, .ref aA_refused, .ref aA_heardBy])), (aA_refused, .inl (gI G, 3, .inl A_refused)), (aN, .inr (0, [.int N_width, .int N_height, .long N_everywhere, .long N_firstColumn, .long N_lastColumn, .ref aN_grounds, .ref aN_airs, .ref aN_tolds, .ref aN_fees, .ref aN_lets, .int N_makers, .ref aN_kinds, .ref aN_cells, .ref aN_selves, .ref aN_cries, .int N_leaves, .ref aN_parts, .int N_pasts, .ref aN_past]))] → lv_has ls 14 [(4, .long x6)] → W p l e (RM 2 44) s m args below meth c H locs 0 0 Q (F0 m 159 ls [])) h ?_ ?_
            · skip
              intro x6 h
              intro H locs ls hW hl
              refine lv_lload C.1.1 C.1.2.1 d_Ai_thunder_159 (lv_at hl 0 rfl) ?_
              obtain ⟨x7, hc8, h⟩ := bd_at h
              refine x_callS (ws' := [(aA, .inr (3, [.ref aN, .ref A_draft, .ref aA_images, .ref aA_kept, .ref A_sound, .ref A_reader, .ref aA_refused, .ref aA_heardBy])), (aA_refused, .inl (gI G, 3, .inl A_refused)), (aN, .inr (0, [.int N_width, .int N_height, .long N_everywhere, .long N_firstColumn, .long N_lastColumn, .ref aN_grounds, .ref aN_airs, .ref aN_tolds, .ref aN_fees, .ref aN_lets, .int N_makers, .ref aN_kinds, .ref aN_cells, .ref aN_selves, .ref aN_cries, .int N_leaves, .ref aN_parts, .int N_pasts, .ref aN_past]))]) (stk := [.int x7]) (rest := []) (As := [.long x6]) C hE hW (c_JL_bitCount l G x6 hc8) cv_JL_bitCount tw641 hl rfl rfl (Nat.le_of_ble_eq_true rfl) ⟨Nat.le_of_ble_eq_true rfl, Nat.le_of_ble_eq_true rfl⟩ ⟨Nat.zero_le _, Nat.zero_le _⟩ [] [0, 1, 2] [0, 1, 2] rfl rfl rfl (by decide) rfl rfl rfl rfl d_Ai_thunder_161 (fun H locs hW => ?_)
              obtain rfl := Option.some.inj h
              exact x_iret C hW rfl rfl hQ d_Ai_thunder_164
            · intro J159 hJ159 h
              refine lp_at (P := fun ((x9, x10, x11) : Int64 × Int64 × Int32) => ∀ (H : Heap) (locs : List Loc) (ls : Array Slot), Wd G A s.heap H locs [(aA, .inr (3, [.ref aN, .ref A_draft, .ref aA_images, .ref aA_kept, .ref A_sound, .ref A_reader, .ref aA_refused, .ref aA_heardBy])), (aA_refused, .inl (gI G, 3, .inl A_refused)), (aN, .inr (0, [.int N_width, .int N_height, .long N_everywhere, .long N_firstColumn, .long N_lastColumn, .ref aN_grounds, .ref aN_airs, .ref aN_tolds, .ref aN_fees, .ref aN_lets, .int N_makers, .ref aN_kinds, .ref aN_cells, .ref aN_selves, .ref aN_cries, .int N_leaves, .ref aN_parts, .int N_pasts, .ref aN_past]))] → lv_has ls 14 [(0, .ref aA), (2, .int p2), (3, .int x4), (4, .long x9), (6, .long x10), (8, .int x11)] → W p l e (RM 2 44) s m args below meth c H locs 0 0 Q (F0 m 53 ls [])) ?_ FU _ h _ _ _ hW (lv_sub hl [4, 6, 3, 2, 1, 0] rfl)
              clear h hl hW
              intro rec53 ih53
              intro x h
              obtain ⟨x9, x10, x11⟩ := x
              unfold f_Ai_thunder_L53 at h
              intro H locs ls hW hl
              refine lv_iload C.1.1 C.1.2.1 d_Ai_thunder_53 (lv_at hl 5 rfl) ?_
              refine lv_iload_n C.1.1 C.1.2.1 d_Ai_thunder_55 rfl (lv_at hl 1 rfl) ?_
              refine lv_icmp_ge (tgt := 159) C.1.1 C.1.2.1 d_Ai_thunder_56 (by decide) (fun cc => ?_) (fun cc => ?_)
              · replace h := it_t cc h
                exact hJ159 _ h _ _ _ hW (lv_sub hl [3] rfl)
              · replace h := it_f cc h
                refine lv_iload_n C.1.1 C.1.2.1 d_Ai_thunder_59 rfl (lv_at hl 2 rfl) ?_
                refine lv_if_le (tgt := 159) C.1.1 C.1.2.1 d_Ai_thunder_60 (by decide) (fun cc => ?_) (fun cc => ?_)
                · replace h := it_t cc h
                  exact hJ159 _ h _ _ _ hW (lv_sub hl [3] rfl)
                · replace h := it_f cc h
                  refine lv_lload C.1.1 C.1.2.1 d_Ai_thunder_63 (lv_at hl 4 rfl) ?_
                  refine lv_ldc2 (own := "LentAir") (v := 1103515245) C.1.1 C.1.2.1 C.1.2.2.2.1 (C.w tw768) d_Ai_thunder_65 ?_
                  refine lv_lmul C.1.1 C.1.2.1 d_Ai_thunder_68 ?_
                  refine lv_ldc2 (own := "LentAir") (v := 12345) C.1.1 C.1.2.1 C.1.2.2.2.1 (C.w tw769) d_Ai_thunder_69 ?_
                  refine lv_ladd C.1.1 C.1.2.1 d_Ai_thunder_72 ?_
                  refine lv_ldc2 (own := "LentAir") (v := 2147483648) C.1.1 C.1.2.1 C.1.2.2.2.1 (C.w tw770) d_Ai_thunder_73 ?_
                  refine lv_lrem C.1.1 C.1.2.1 d_Ai_thunder_76 (by decide) ?_
                  refine lv_topl (fun x12 ex12 => ?_)
                  replace h := lt_at ex12 h
                  refine lv_lstore (lv' := [(6, .long x12), (0, .ref aA), (2, .int p2), (3, .int x4), (4, .long x9), (8, .int x11)]) C.1.1 C.1.2.1 d_Ai_thunder_77 hl (by decide) rfl (fun ls hl => ?_)
                  refine lv_lconst (v := 1) C.1.1 C.1.2.1 d_Ai_thunder_79 (by decide) ?_
                  refine lv_lload C.1.1 C.1.2.1 d_Ai_thunder_80 (lv_at hl 0 rfl) ?_
                  refine lv_ldc2 (own := "LentAir") (v := 65536) C.1.1 C.1.2.1 C.1.2.2.2.1 (C.w tw771) d_Ai_thunder_82 ?_
                  refine lv_ldiv C.1.1 C.1.2.1 d_Ai_thunder_85 (by decide) ?_
                  refine lv_iload_n C.1.1 C.1.2.1 d_Ai_thunder_86 rfl (lv_at hl 3 rfl) ?_
                  refine lv_i2l C.1.1 C.1.2.1 d_Ai_thunder_87 rfl ?_
                  obtain ⟨hg, h⟩ := gd_at h
                  refine lv_lrem C.1.1 C.1.2.1 d_Ai_thunder_88 (nzL_at hg) ?_
                  refine lv_l2i C.1.1 C.1.2.1 d_Ai_thunder_89 rfl ?_
                  refine lv_lshl C.1.1 C.1.2.1 d_Ai_thunder_90 rfl ?_
                  refine lv_topl (fun x13 ex13 => ?_)
                  replace h := lt_at ex13 h
                  refine lv_lstore (lv' := [(9, .long x13), (6, .long x12), (0, .ref aA), (2, .int p2), (3, .int x4), (4, .long x9), (8, .int x11)]) C.1.1 C.1.2.1 d_Ai_thunder_91 hl (by decide) rfl (fun ls hl => ?_)
                  refine lv_lload C.1.1 C.1.2.1 d_Ai_thunder_93 (lv_at hl 1 rfl) ?_
                  refine lv_ldc2 (own := "LentAir") (v := 4096) C.1.1 C.1.2.1 C.1.2.2.2.1 (C.w tw772) d_Ai_thunder_95 ?_
                  refine lv_ldiv C.1.1 C.1.2.1 d_Ai_thunder_98 (by decide) ?_
                  refine lv_ldc2 (own := "LentAir") (v := 9) C.1.1 C.1.2.1 C.1.2.2.2.1 (C.w tw773) d_Ai_thunder_99 ?_
                  refine lv_lrem C.1.1 C.1.2.1 d_Ai_thunder_102 (by decide) ?_
                  refine lv_lconst (v := 1) C.1.1 C.1.2.1 d_Ai_thunder_103 (by decide) ?_
                  refine lv_ladd C.1.1 C.1.2.1 d_Ai_thunder_104 ?_
                  refine lv_topl (fun x14 ex14 => ?_)
                  replace h := lt_at ex14 h
                  refine lv_lstore (lv' := [(11, .long x14), (9, .long x13), (6, .long x12), (0, .ref aA), (2, .int p2), (3, .int x4), (4, .long x9), (8, .int x11)]) C.1.1 C.1.2.1 d_Ai_thunder_105 hl (by decide) rfl (fun ls hl => ?_)
                  refine lv_iconst (v := 1) C.1.1 C.1.2.1 d_Ai_thunder_107 (by decide) ?_
                  refine lv_istore (lv' := [(13, .int 1), (11, .long x14), (9, .long x13), (6, .long x12), (0, .ref aA), (2, .int p2), (3, .int x4), (4, .long x9), (8, .int x11)]) C.1.1 C.1.2.1 d_Ai_thunder_108 hl (by decide) rfl (fun ls hl => ?_)
                  refine jn_at (P := fun (x15 : Int64) => ∀ (H : Heap) (locs : List Loc) (ls : Array Slot), Wd G A s.heap H locs [(aA, .inr (3, [.ref aN, .ref A_draft, .ref aA_images, .ref aA_kept, .ref A_sound, .ref A_reader, .ref aA_refused, .ref aA_heardBy])), (aA_refused, .inl (gI G, 3, .inl A_refused)), (aN, .inr (0, [.int N_width, .int N_height, .long N_everywhere, .long N_firstColumn, .long N_lastColumn, .ref aN_grounds, .ref aN_airs, .ref aN_tolds, .ref aN_fees, .ref aN_lets, .int N_makers, .ref aN_kinds, .ref aN_cells, .ref aN_selves, .ref aN_cries, .int N_leaves, .ref aN_parts, .int N_pasts, .ref aN_past]))] → lv_has ls 14 [(0, .ref aA), (2, .int p2), (3, .int x4), (4, .long x9), (6, .long x12), (8, .int x11), (9, .long x15)] → W p l e (RM 2 44) s m args below meth c H locs 0 0 Q (F0 m 146 ls [])) h ?_ ?_
                  · skip
                    intro x15 h
                    intro H locs ls hW hl
                    refine lv_lload C.1.1 C.1.2.1 d_Ai_thunder_146 (lv_at hl 3 rfl) ?_
                    refine lv_lload C.1.1 C.1.2.1 d_Ai_thunder_148 (lv_at hl 6 rfl) ?_
                    refine lv_lor C.1.1 C.1.2.1 d_Ai_thunder_150 ?_
                    refine lv_topl (fun x16 ex16 => ?_)
                    replace h := lt_at ex16 h
                    refine lv_lstore (lv' := [(4, .long x16), (0, .ref aA), (2, .int p2), (3, .int x4), (6, .long x12), (8, .int x11), (9, .long x15)]) C.1.1 C.1.2.1 d_Ai_thunder_151 hl (by decide) rfl (fun ls hl => ?_)
                    obtain ⟨x17, ex17⟩ : ∃ y : Int32, y = x11 + 1 := ⟨_, rfl⟩
                    replace h := lt_at ex17 h
                    refine lv_iinc (v := x17) (lv' := [(8, .int x17), (4, .long x16), (0, .ref aA), (2, .int p2), (3, .int x4), (6, .long x12), (9, .long x15)]) C.1.1 C.1.2.1 d_Ai_thunder_153 hl (k := 5) rfl (by rw [ex17]; rfl) (by decide) rfl (fun ls hl => ?_)
                    refine lv_goto (tgt := 53) C.1.1 C.1.2.1 d_Ai_thunder_156 (by decide) ?_
                    exact ih53 _ h _ _ _ hW (lv_sub hl [2, 3, 4, 1, 5, 0] rfl)
                  · intro J146 hJ146 h
                    refine lp_at (P := fun ((x18, x19) : Int64 × Int32) => ∀ (H : Heap) (locs : List Loc) (ls : Array Slot), Wd G A s.heap H locs [(aA, .inr (3, [.ref aN, .ref A_draft, .ref aA_images, .ref aA_kept, .ref A_sound, .ref A_reader, .ref aA_refused, .ref aA_heardBy])), (aA_refused, .inl (gI G, 3, .inl A_refused)), (aN, .inr (0, [.int N_width, .int N_height, .long N_everywhere, .long N_firstColumn, .long N_lastColumn, .ref aN_grounds, .ref aN_airs, .ref aN_tolds, .ref aN_fees, .ref aN_lets, .int N_makers, .ref aN_kinds, .ref aN_cells, .ref aN_selves, .ref aN_cries, .int N_leaves, .ref aN_parts, .int N_pasts, .ref aN_past]))] → lv_has ls 14 [(0, .ref aA), (2, .int p2), (3, .int x4), (4, .long x9), (6, .long x12), (8, .int x11), (9, .long x18), (11, .long x14), (13, .int x19)] → W p l e (RM 2 44) s m args below meth c H locs 0 0 Q (F0 m 110 ls [])) ?_ FU _ h _ _ _ hW (lv_sub hl [4, 5, 6, 7, 3, 8, 2, 1, 0] rfl)
                    clear h hl hW
                    intro rec110 ih110
                    intro x h
                    obtain ⟨x18, x19⟩ := x
                    unfold f_Ai_thunder_L110 at h
                    intro H locs ls hW hl
                    refine lv_iload C.1.1 C.1.2.1 d_Ai_thunder_110 (lv_at hl 8 rfl) ?_
                    refine lv_i2l C.1.1 C.1.2.1 d_Ai_thunder_112 rfl ?_
                    refine lv_lload C.1.1 C.1.2.1 d_Ai_thunder_113 (lv_at hl 7 rfl) ?_
                    refine W.lcmp C.1.1 C.1.2.1 d_Ai_thunder_115 ?_
                    refine lv_if_ge (tgt := 146) C.1.1 C.1.2.1 d_Ai_thunder_116 (by decide) (fun cc => ?_) (fun cc => ?_)
                    · replace h := it_t cc h
                      exact hJ146 _ h _ _ _ hW (lv_sub hl [0, 1, 2, 3, 4, 5, 6] rfl)
                    · replace h := it_f cc h
                      refine lv_iload C.1.1 C.1.2.1 d_Ai_thunder_119 (lv_at hl 8 rfl) ?_
                      refine lv_bipush (v := 9) C.1.1 C.1.2.1 d_Ai_thunder_121 (by decide) ?_
                      refine lv_icmp_ge (tgt := 146) C.1.1 C.1.2.1 d_Ai_thunder_123 (by decide) (fun cc => ?_) (fun cc => ?_)
                      · replace h := it_t cc h
                        exact hJ146 _ h _ _ _ hW (lv_sub hl [0, 1, 2, 3, 4, 5, 6] rfl)
                      · replace h := it_f cc h
                        refine lv_lload C.1.1 C.1.2.1 d_Ai_thunder_126 (lv_at hl 6 rfl) ?_
                        refine lv_aload_n C.1.1 C.1.2.1 d_Ai_thunder_128 rfl (lv_at hl 0 rfl) ?_
                        refine x_get C hE hW fl_Ai_12 0 rfl rfl d_Ai_thunder_129 ?_
                        refine lv_lload C.1.1 C.1.2.1 d_Ai_thunder_132 (lv_at hl 6 rfl) ?_
                        obtain ⟨x20, hc21, h⟩ := bd_at h
                        refine x_callV (ws' := [(aA, .inr (3, [.ref aN, .ref A_draft, .ref aA_images, .ref aA_kept, .ref A_sound, .ref A_reader, .ref aA_refused, .ref aA_heardBy])), (aA_refused, .inl (gI G, 3, .inl A_refused)), (aN, .inr (0, [.int N_width, .int N_height, .long N_everywhere, .long N_firstColumn, .long N_lastColumn, .ref aN_grounds, .ref aN_airs, .ref aN_tolds, .ref aN_fees, .ref aN_lets, .int N_makers, .ref aN_kinds, .ref aN_cells, .ref aN_selves, .ref aN_cries, .int N_leaves, .ref aN_parts, .int N_pasts, .ref aN_past]))]) (stk := [.long x20, .long x18]) (rest := [.long x18]) (As := [.long x18]) (q0 := 2) C hE hW (c_Ld_beside l G aN aN_grounds aN_airs aN_tolds aN_fees aN_lets aN_kinds aN_cells aN_selves aN_cries aN_parts aN_past N_width N_height N_everywhere N_firstColumn N_lastColumn N_makers N_leaves N_pasts x18 hc21) cv_Ld_beside tw774 hl rfl rfl (Nat.le_of_ble_eq_true rfl) rfl rfl rfl ⟨Nat.le_of_ble_eq_true rfl, Nat.le_of_ble_eq_true rfl⟩ ⟨Nat.zero_le _, Nat.zero_le _⟩ [2] [0, 1] [0, 1, 2] rfl rfl rfl (by decide) rfl rfl rfl rfl d_Ai_thunder_134 (fun H locs hW => ?_)
                        refine lv_lor C.1.1 C.1.2.1 d_Ai_thunder_137 ?_
                        refine lv_topl (fun x22 ex22 => ?_)
                        replace h := lt_at ex22 h
                        refine lv_lstore (lv' := [(9, .long x22), (0, .ref aA), (2, .int p2), (3, .int x4), (4, .long x9), (6, .long x12), (8, .int x11), (11, .long x14), (13, .int x19)]) C.1.1 C.1.2.1 d_Ai_thunder_138 hl (by decide) rfl (fun ls hl => ?_)
                        obtain ⟨x23, ex23⟩ : ∃ y : Int32, y = x19 + 1 := ⟨_, rfl⟩
                        replace h := lt_at ex23 h
                        refine lv_iinc (v := x23) (lv' := [(13, .int x23), (9, .long x22), (0, .ref aA), (2, .int p2), (3, .int x4), (4, .long x9), (6, .long x12), (8, .int x11), (11, .long x14)]) C.1.1 C.1.2.1 d_Ai_thunder_140 hl (k := 8) rfl (by rw [ex23]; rfl) (by decide) rfl (fun ls hl => ?_)
                        refine lv_goto (tgt := 110) C.1.1 C.1.2.1 d_Ai_thunder_143 (by decide) ?_
                        exact ih110 _ h _ _ _ hW (lv_sub hl [2, 3, 4, 5, 6, 7, 1, 8, 0] rfl)
          · replace h := it_f cc h
            exact hJ20 _ h _ _ _ hW (lv_sub hl [0] rfl)
set_option maxHeartbeats 4000000 in
set_option maxRecDepth 100000 in
theorem c_Ai_image (l : Launch) (G : Gl) (aA : Nat) (aA_images : Nat) (aA_kept : Nat) (aA_refused : Nat) (aA_heardBy : Nat) (aN : Nat) (aN_grounds : Nat) (aN_airs : Nat) (aN_tolds : Nat) (aN_fees : Nat) (aN_lets : Nat) (aN_kinds : Nat) (aN_cells : Nat) (aN_selves : Nat) (aN_cries : Nat) (aN_parts : Nat) (aN_past : Nat) (aI0 : Nat) (aI0_grounds : Nat) (aI0_airs : Nat) (aI0_tolds : Nat) (aI0_fees : Nat) (aI0_lets : Nat) (aI0_kinds : Nat) (aI0_cells : Nat) (aI0_selves : Nat) (aI0_cries : Nat) (aI0_parts : Nat) (aI0_past : Nat) (aI1 : Nat) (aI1_grounds : Nat) (aI1_airs : Nat) (aI1_tolds : Nat) (aI1_fees : Nat) (aI1_lets : Nat) (aI1_kinds : Nat) (aI1_cells : Nat) (aI1_selves : Nat) (aI1_cries : Nat) (aI1_parts : Nat) (aI1_past : Nat) (A_draft : Nat) (A_sound : Nat) (A_reader : Nat) (N_width : Int32) (N_height : Int32) (N_everywhere : Int64) (N_firstColumn : Int64) (N_lastColumn : Int64) (N_makers : Int32) (N_leaves : Int32) (N_pasts : Int32) (I0_width : Int32) (I0_height : Int32) (I0_everywhere : Int64) (I0_firstColumn : Int64) (I0_lastColumn : Int64) (I0_makers : Int32) (I0_leaves : Int32) (I0_pasts : Int32) (I1_width : Int32) (I1_height : Int32) (I1_everywhere : Int64) (I1_firstColumn : Int64) (I1_lastColumn : Int64) (I1_makers : Int32) (I1_leaves : Int32) (I1_pasts : Int32) (A_kept : Nat → Int32) (A_refused : Nat → Int32) (N_grounds : Nat → Int64) (N_airs : Nat → Int64) (N_tolds : Nat → Int64) (N_fees : Nat → Int32) (N_lets : Nat → Int32) (N_kinds : Nat → Int32) (N_cells : Nat → Int32) (N_selves : Nat → Int32) (N_cries : Nat → Int32) (N_parts : Nat → Int32) (N_past : Nat → Int32) (I0_grounds : Nat → Int64) (I0_airs : Nat → Int64) (I0_tolds : Nat → Int64) (I0_fees : Nat → Int32) (I0_lets : Nat → Int32) (I0_kinds : Nat → Int32) (I0_cells : Nat → Int32) (I0_selves : Nat → Int32) (I0_cries : Nat → Int32) (I0_parts : Nat → Int32) (I0_past : Nat → Int32) (I1_grounds : Nat → Int64) (I1_airs : Nat → Int64) (I1_tolds : Nat → Int64) (I1_fees : Nat → Int32) (I1_lets : Nat → Int32) (I1_kinds : Nat → Int32) (I1_cells : Nat → Int32) (I1_selves : Nat → Int32) (I1_cries : Nat → Int32) (I1_parts : Nat → Int32) (I1_past : Nat → Int32) (p1 : Int32) {res : Int32 × (Nat → Int32) × (Nat → Int32) × Int32 × Int32 × Int64 × Int64 × Int64 × (Nat → Int64) × (Nat → Int64) × (Nat → Int64) × (Nat → Int32) × (Nat → Int32) × Int32 × (Nat → Int32) × (Nat → Int32) × (Nat → Int32) × (Nat → Int32) × Int32 × (Nat → Int32) × Int32 × (Nat → Int32) × Int32 × Int32 × Int64 × Int64 × Int64 × (Nat → Int64) × (Nat → Int64) × (Nat → Int64) × (Nat → Int32) × (Nat → Int32) × Int32 × (Nat → Int32) × (Nat → Int32) × (Nat → Int32) × (Nat → Int32) × Int32 × (Nat → Int32) × Int32 × (Nat → Int32)} (h : f_Ai_image N_width N_height N_everywhere N_firstColumn N_lastColumn N_makers N_leaves N_pasts I0_width I0_height I0_everywhere I0_firstColumn I0_lastColumn I0_makers I0_leaves I0_pasts I1_width I1_height I1_everywhere I1_firstColumn I1_lastColumn I1_makers I1_leaves I1_pasts A_kept A_refused N_grounds N_airs N_tolds N_fees N_lets N_kinds N_cells N_selves N_cries N_parts N_past I0_grounds I0_airs I0_tolds I0_fees I0_lets I0_kinds I0_cells I0_selves I0_cries I0_parts I0_past I1_grounds I1_airs I1_tolds I1_fees I1_lets I1_kinds I1_cells I1_selves I1_cries I1_parts I1_past p1 = some res) : Ct l y_Ai_image b_Ai_image 2 (some .int) 2 61 G [.ref aA, .int p1] [(aA, .inr (3, [.ref aN, .ref A_draft, .ref aA_images, .ref aA_kept, .ref A_sound, .ref A_reader, .ref aA_refused, .ref aA_heardBy])), (aA_images, .inl (gO G, 2, .inr (.inr (.inr (.inr (imF aI0 aI1)))))), (aA_kept, .inl (gZ G, 2, .inl A_kept)), (aA_refused, .inl (gI G, 3, .inl A_refused)), (aN, .inr (0, [.int N_width, .int N_height, .long N_everywhere, .long N_firstColumn, .long N_lastColumn, .ref aN_grounds, .ref aN_airs, .ref aN_tolds, .ref aN_fees, .ref aN_lets, .int N_makers, .ref aN_kinds, .ref aN_cells, .ref aN_selves, .ref aN_cries, .int N_leaves, .ref aN_parts, .int N_pasts, .ref aN_past])), (aN_grounds, .inl (gJ G, 3, .inr (.inl N_grounds))), (aN_airs, .inl (gJ G, 6, .inr (.inl N_airs))), (aN_tolds, .inl (gJ G, 3, .inr (.inl N_tolds))), (aN_fees, .inl (gI G, 6, .inl N_fees)), (aN_lets, .inl (gI G, 6, .inl N_lets)), (aN_kinds, .inl (gI G, 6, .inl N_kinds)), (aN_cells, .inl (gI G, 6, .inl N_cells)), (aN_selves, .inl (gI G, 6, .inl N_selves)), (aN_cries, .inl (gI G, 6, .inl N_cries)), (aN_parts, .inl (gI G, 40, .inl N_parts)), (aN_past, .inl (gI G, 328, .inl N_past)), (aI0, .inr (0, [.int I0_width, .int I0_height, .long I0_everywhere, .long I0_firstColumn, .long I0_lastColumn, .ref aI0_grounds, .ref aI0_airs, .ref aI0_tolds, .ref aI0_fees, .ref aI0_lets, .int I0_makers, .ref aI0_kinds, .ref aI0_cells, .ref aI0_selves, .ref aI0_cries, .int I0_leaves, .ref aI0_parts, .int I0_pasts, .ref aI0_past])), (aI0_grounds, .inl (gJ G, 3, .inr (.inl I0_grounds))), (aI0_airs, .inl (gJ G, 6, .inr (.inl I0_airs))), (aI0_tolds, .inl (gJ G, 3, .inr (.inl I0_tolds))), (aI0_fees, .inl (gI G, 6, .inl I0_fees)), (aI0_lets, .inl (gI G, 6, .inl I0_lets)), (aI0_kinds, .inl (gI G, 6, .inl I0_kinds)), (aI0_cells, .inl (gI G, 6, .inl I0_cells)), (aI0_selves, .inl (gI G, 6, .inl I0_selves)), (aI0_cries, .inl (gI G, 6, .inl I0_cries)), (aI0_parts, .inl (gI G, 40, .inl I0_parts)), (aI0_past, .inl (gI G, 328, .inl I0_past)), (aI1, .inr (0, [.int I1_width, .int I1_height, .long I1_everywhere, .long I1_firstColumn, .long I1_lastColumn, .ref aI1_grounds, .ref aI1_airs, .ref aI1_tolds, .ref aI1_fees, .ref aI1_lets, .int I1_makers, .ref aI1_kinds, .ref aI1_cells, .ref aI1_selves, .ref aI1_cries, .int I1_leaves, .ref aI1_parts, .int I1_pasts, .ref aI1_past])), (aI1_grounds, .inl (gJ G, 3, .inr (.inl I1_grounds))), (aI1_airs, .inl (gJ G, 6, .inr (.inl I1_airs))), (aI1_tolds, .inl (gJ G, 3, .inr (.inl I1_tolds))), (aI1_fees, .inl (gI G, 6, .inl I1_fees)), (aI1_lets, .inl (gI G, 6, .inl I1_lets)), (aI1_kinds, .inl (gI G, 6, .inl I1_kinds)), (aI1_cells, .inl (gI G, 6, .inl I1_cells)), (aI1_selves, .inl (gI G, 6, .inl I1_selves)), (aI1_cries, .inl (gI G, 6, .inl I1_cries)), (aI1_parts, .inl (gI G, 40, .inl I1_parts)), (aI1_past, .inl (gI G, 328, .inl I1_past))] (some (.int res.1)) [(aA, .inr (3, [.ref aN, .ref A_draft, .ref aA_images, .ref aA_kept, .ref A_sound, .ref A_reader, .ref aA_refused, .ref aA_heardBy])), (aA_images, .inl (gO G, 2, .inr (.inr (.inr (.inr (imF aI0 aI1)))))), (aA_kept, .inl (gZ G, 2, .inl (res.2.1))), (aA_refused, .inl (gI G, 3, .inl (res.2.2.1))), (aN, .inr (0, [.int N_width, .int N_height, .long N_everywhere, .long N_firstColumn, .long N_lastColumn, .ref aN_grounds, .ref aN_airs, .ref aN_tolds, .ref aN_fees, .ref aN_lets, .int N_makers, .ref aN_kinds, .ref aN_cells, .ref aN_selves, .ref aN_cries, .int N_leaves, .ref aN_parts, .int N_pasts, .ref aN_past])), (aN_grounds, .inl (gJ G, 3, .inr (.inl N_grounds))), (aN_airs, .inl (gJ G, 6, .inr (.inl N_airs))), (aN_tolds, .inl (gJ G, 3, .inr (.inl N_tolds))), (aN_fees, .inl (gI G, 6, .inl N_fees)), (aN_lets, .inl (gI G, 6, .inl N_lets)), (aN_kinds, .inl (gI G, 6, .inl N_kinds)), (aN_cells, .inl (gI G, 6, .inl N_cells)), (aN_selves, .inl (gI G, 6, .inl N_selves)), (aN_cries, .inl (gI G, 6, .inl N_cries)), (aN_parts, .inl (gI G, 40, .inl N_parts)), (aN_past, .inl (gI G, 328, .inl N_past)), (aI0, .inr (0, [.int (res.2.2.2.1), .int (res.2.2.2.2.1), .long (res.2.2.2.2.2.1), .long (res.2.2.2.2.2.2.1), .long (res.2.2.2.2.2.2.2.1), .ref aI0_grounds, .ref aI0_airs, .ref aI0_tolds, .ref aI0_fees, .ref aI0_lets, .int (res.2.2.2.2.2.2.2.2.2.2.2.2.2.1), .ref aI0_kinds, .ref aI0_cells, .ref aI0_selves, .ref aI0_cries, .int (res.2.2.2.2.2.2.2.2.2.2.2.2.2.2.2.2.2.2.1), .ref aI0_parts, .int (res.2.2.2.2.2.2.2.2.2.2.2.2.2.2.2.2.2.2.2.2.1), .ref aI0_past])), (aI0_grounds, .inl (gJ G, 3, .inr (.inl (res.2.2.2.2.2.2.2.2.1)))), (aI0_airs, .inl (gJ G, 6, .inr (.inl (res.2.2.2.2.2.2.2.2.2.1)))), (aI0_tolds, .inl (gJ G, 3, .inr (.inl (res.2.2.2.2.2.2.2.2.2.2.1)))), (aI0_fees, .inl (gI G, 6, .inl (res.2.2.2.2.2.2.2.2.2.2.2.1))), (aI0_lets, .inl (gI G, 6, .inl (res.2.2.2.2.2.2.2.2.2.2.2.2.1))), (aI0_kinds, .inl (gI G, 6, .inl (res.2.2.2.2.2.2.2.2.2.2.2.2.2.2.1))), (aI0_cells, .inl (gI G, 6, .inl (res.2.2.2.2.2.2.2.2.2.2.2.2.2.2.2.1))), (aI0_selves, .inl (gI G, 6, .inl (res.2.2.2.2.2.2.2.2.2.2.2.2.2.2.2.2.1))), (aI0_cries, .inl (gI G, 6, .inl (res.2.2.2.2.2.2.2.2.2.2.2.2.2.2.2.2.2.1))), (aI0_parts, .inl (gI G, 40, .inl (res.2.2.2.2.2.2.2.2.2.2.2.2.2.2.2.2.2.2.2.1))), (aI0_past, .inl (gI G, 328, .inl (res.2.2.2.2.2.2.2.2.2.2.2.2.2.2.2.2.2.2.2.2.2.1))), (aI1, .inr (0, [.int (res.2.2.2.2.2.2.2.2.2.2.2.2.2.2.2.2.2.2.2.2.2.2.1), .int (res.2.2.2.2.2.2.2.2.2.2.2.2.2.2.2.2.2.2.2.2.2.2.2.1), .long (res.2.2.2.2.2.2.2.2.2.2.2.2.2.2.2.2.2.2.2.2.2.2.2.2.1), .long (res.2.2.2.2.2.2.2.2.2.2.2.2.2.2.2.2.2.2.2.2.2.2.2.2.2.1), .long (res.2.2.2.2.2.2.2.2.2.2.2.2.2.2.2.2.2.2.2.2.2.2.2.2.2.2.1), .ref aI1_grounds, .ref aI1_airs, .ref aI1_tolds, .ref aI1_fees, .ref aI1_lets, .int (res.2.2.2.2.2.2.2.2.2.2.2.2.2.2.2.2.2.2.2.2.2.2.2.2.2.2.2.2.2.2.2.2.1), .ref aI1_kinds, .ref aI1_cells, .ref aI1_selves, .ref aI1_cries, .int (res.2.2.2.2.2.2.2.2.2.2.2.2.2.2.2.2.2.2.2.2.2.2.2.2.2.2.2.2.2.2.2.2.2.2.2.2.2.1), .ref aI1_parts, .int (res.2.2.2.2.2.2.2.2.2.2.2.2.2.2.2.2.2.2.2.2.2.2.2.2.2.2.2.2.2.2.2.2.2.2.2.2.2.2.2.1), .ref aI1_past])), (aI1_grounds, .inl (gJ G, 3, .inr (.inl (res.2.2.2.2.2.2.2.2.2.2.2.2.2.2.2.2.2.2.2.2.2.2.2.2.2.2.2.1)))), (aI1_airs, .inl (gJ G, 6, .inr (.inl (res.2.2.2.2.2.2.2.2.2.2.2.2.2.2.2.2.2.2.2.2.2.2.2.2.2.2.2.2.1)))), (aI1_tolds, .inl (gJ G, 3, .inr (.inl (res.2.2.2.2.2.2.2.2.2.2.2.2.2.2.2.2.2.2.2.2.2.2.2.2.2.2.2.2.2.1)))), (aI1_fees, .inl (gI G, 6, .inl (res.2.2.2.2.2.2.2.2.2.2.2.2.2.2.2.2.2.2.2.2.2.2.2.2.2.2.2.2.2.2.1))), (aI1_lets, .inl (gI G, 6, .inl (res.2.2.2.2.2.2.2.2.2.2.2.2.2.2.2.2.2.2.2.2.2.2.2.2.2.2.2.2.2.2.2.1))), (aI1_kinds, .inl (gI G, 6, .inl (res.2.2.2.2.2.2.2.2.2.2.2.2.2.2.2.2.2.2.2.2.2.2.2.2.2.2.2.2.2.2.2.2.2.1))), (aI1_cells, .inl (gI G, 6, .inl (res.2.2.2.2.2.2.2.2.2.2.2.2.2.2.2.2.2.2.2.2.2.2.2.2.2.2.2.2.2.2.2.2.2.2.1))), (aI1_selves, .inl (gI G, 6, .inl (res.2.2.2.2.2.2.2.2.2.2.2.2.2.2.2.2.2.2.2.2.2.2.2.2.2.2.2.2.2.2.2.2.2.2.2.1))), (aI1_cries, .inl (gI G, 6, .inl (res.2.2.2.2.2.2.2.2.2.2.2.2.2.2.2.2.2.2.2.2.2.2.2.2.2.2.2.2.2.2.2.2.2.2.2.2.1))), (aI1_parts, .inl (gI G, 40, .inl (res.2.2.2.2.2.2.2.2.2.2.2.2.2.2.2.2.2.2.2.2.2.2.2.2.2.2.2.2.2.2.2.2.2.2.2.2.2.2.1))), (aI1_past, .inl (gI G, 328, .inl (res.2.2.2.2.2.2.2.2.2.2.2.2.2.2.2.2.2.2.2.2.2.2.2.2.2.2.2.2.2.2.2.2.2.2.2.2.2.2.2.2)))] := by
  refine Ct.mk (by decide) (Nat.le_of_ble_eq_true rfl) ?_
  intro p e s m args below meth c ls A Q C hE hW hl hQ
  have C : Cx p s args m c meth "LentAir" y_Ai_image b_Ai_image 2 (some .int) := C
  have hl : lv_has ls 2 [(0, .ref aA), (1, .int p1)] := hl
  unfold f_Ai_image at h
  refine lv_iload_n C.1.1 C.1.2.1 d_Ai_image_0 rfl (lv_at hl 1 rfl) ?_
  refine jn_at (P := fun (_ : Unit) => ∀ (H : Heap) (locs : List Loc) (ls : Array Slot), Wd G A s.heap H locs [(aA, .inr (3, [.ref aN, .ref A_draft, .ref aA_images, .ref aA_kept, .ref A_sound, .ref A_reader, .ref aA_refused, .ref aA_heardBy])), (aA_images, .inl (gO G, 2, .inr (.inr (.inr (.inr (imF aI0 aI1)))))), (aA_kept, .inl (gZ G, 2, .inl A_kept)), (aA_refused, .inl (gI G, 3, .inl A_refused)), (aN, .inr (0, [.int N_width, .int N_height, .long N_everywhere, .long N_firstColumn, .long N_lastColumn, .ref aN_grounds, .ref aN_airs, .ref aN_tolds, .ref aN_fees, .ref aN_lets, .int N_makers, .ref aN_kinds, .ref aN_cells, .ref aN_selves, .ref aN_cries, .int N_leaves, .ref aN_parts, .int N_pasts, .ref aN_past])), (aN_grounds, .inl (gJ G, 3, .inr (.inl N_grounds))), (aN_airs, .inl (gJ G, 6, .inr (.inl N_airs))), (aN_tolds, .inl (gJ G, 3, .inr (.inl N_tolds))), (aN_fees, .inl (gI G, 6, .inl N_fees)), (aN_lets, .inl (gI G, 6, .inl N_lets)), (aN_kinds, .inl (gI G, 6, .inl N_kinds)), (aN_cells, .inl (gI G, 6, .inl N_cells)), (aN_selves, .inl (gI G, 6, .inl N_selves)), (aN_cries, .inl (gI G, 6, .inl N_cries)), (aN_parts, .inl (gI G, 40, .inl N_parts)), (aN_past, .inl (gI G, 328, .inl N_past)), (aI0, .inr (0, [.int I0_width, .int I0_height, .long I0_everywhere, .long I0_firstColumn, .long I0_lastColumn, .ref aI0_grounds, .ref aI0_airs, .ref aI0_tolds, .ref aI0_fees, .ref aI0_lets, .int I0_makers, .ref aI0_kinds, .ref aI0_cells, .ref aI0_selves, .ref aI0_cries, .int I0_leaves, .ref aI0_parts, .int I0_pasts, .ref aI0_past])), (aI0_grounds, .inl (gJ G, 3, .inr (.inl I0_grounds))), (aI0_airs, .inl (gJ G, 6, .inr (.inl I0_airs))), (aI0_tolds, .inl (gJ G, 3, .inr (.inl I0_tolds))), (aI0_fees, .inl (gI G, 6, .inl I0_fees)), (aI0_lets, .inl (gI G, 6, .inl I0_lets)), (aI0_kinds, .inl (gI G, 6, .inl I0_kinds)), (aI0_cells, .inl (gI G, 6, .inl I0_cells)), (aI0_selves, .inl (gI G, 6, .inl I0_selves)), (aI0_cries, .inl (gI G, 6, .inl I0_cries)), (aI0_parts, .inl (gI G, 40, .inl I0_parts)), (aI0_past, .inl (gI G, 328, .inl I0_past)), (aI1, .inr (0, [.int I1_width, .int I1_height, .long I1_everywhere, .long I1_firstColumn, .long I1_lastColumn, .ref aI1_grounds, .ref aI1_airs, .ref aI1_tolds, .ref aI1_fees, .ref aI1_lets, .int I1_makers, .ref aI1_kinds, .ref aI1_cells, .ref aI1_selves, .ref aI1_cries, .int I1_leaves, .ref aI1_parts, .int I1_pasts, .ref aI1_past])), (aI1_grounds, .inl (gJ G, 3, .inr (.inl I1_grounds))), (aI1_airs, .inl (gJ G, 6, .inr (.inl I1_airs))), (aI1_tolds, .inl (gJ G, 3, .inr (.inl I1_tolds))), (aI1_fees, .inl (gI G, 6, .inl I1_fees)), (aI1_lets, .inl (gI G, 6, .inl I1_lets)), (aI1_kinds, .inl (gI G, 6, .inl I1_kinds)), (aI1_cells, .inl (gI G, 6, .inl I1_cells)), (aI1_selves, .inl (gI G, 6, .inl I1_selves)), (aI1_cries, .inl (gI G, 6, .inl I1_cries)), (aI1_parts, .inl (gI G, 40, .inl I1_parts)), (aI1_past, .inl (gI G, 328, .inl I1_past))] → lv_has ls 2 [(0, .ref aA)] → W p l e (RM 2 61) s m args below meth c H locs 0 0 Q (F0 m 9 ls [])) h ?_ ?_
  · skip
    intro _ h
    intro H locs ls hW hl
    refine lv_aload_n C.1.1 C.1.2.1 d_Ai_image_9 rfl (lv_at hl 0 rfl) ?_
    refine lv_bipush (v := (-2)) C.1.1 C.1.2.1 d_Ai_image_10 (by decide) ?_
    obtain ⟨⟨x1, x2⟩, hc3, h⟩ := bd_at h
    refine x_callV (ws' := [(aA, .inr (3, [.ref aN, .ref A_draft, .ref aA_images, .ref aA_kept, .ref A_sound, .ref A_reader, .ref aA_refused, .ref aA_heardBy])), (aA_images, .inl (gO G, 2, .inr (.inr (.inr (.inr (imF aI0 aI1)))))), (aA_kept, .inl (gZ G, 2, .inl A_kept)), (aA_refused, .inl (gI G, 3, .inl x2)), (aN, .inr (0, [.int N_width, .int N_height, .long N_everywhere, .long N_firstColumn, .long N_lastColumn, .ref aN_grounds, .ref aN_airs, .ref aN_tolds, .ref aN_fees, .ref aN_lets, .int N_makers, .ref aN_kinds, .ref aN_cells, .ref aN_selves, .ref aN_cries, .int N_leaves, .ref aN_parts, .int N_pasts, .ref aN_past])), (aN_grounds, .inl (gJ G, 3, .inr (.inl N_grounds))), (aN_airs, .inl (gJ G, 6, .inr (.inl N_airs))), (aN_tolds, .inl (gJ G, 3, .inr (.inl N_tolds))), (aN_fees, .inl (gI G, 6, .inl N_fees)), (aN_lets, .inl (gI G, 6, .inl N_lets)), (aN_kinds, .inl (gI G, 6, .inl N_kinds)), (aN_cells, .inl (gI G, 6, .inl N_cells)), (aN_selves, .inl (gI G, 6, .inl N_selves)), (aN_cries, .inl (gI G, 6, .inl N_cries)), (aN_parts, .inl (gI G, 40, .inl N_parts)), (aN_past, .inl (gI G, 328, .inl N_past)), (aI0, .inr (0, [.int I0_width, .int I0_height, .long I0_everywhere, .long I0_firstColumn, .long I0_lastColumn, .ref aI0_grounds, .ref aI0_airs, .ref aI0_tolds, .ref aI0_fees, .ref aI0_lets, .int I0_makers, .ref aI0_kinds, .ref aI0_cells, .ref aI0_selves, .ref aI0_cries, .int I0_leaves, .ref aI0_parts, .int I0_pasts, .ref aI0_past])), (aI0_grounds, .inl (gJ G, 3, .inr (.inl I0_grounds))), (aI0_airs, .inl (gJ G, 6, .inr (.inl I0_airs))), (aI0_tolds, .inl (gJ G, 3, .inr (.inl I0_tolds))), (aI0_fees, .inl (gI G, 6, .inl I0_fees)), (aI0_lets, .inl (gI G, 6, .inl I0_lets)), (aI0_kinds, .inl (gI G, 6, .inl I0_kinds)), (aI0_cells, .inl (gI G, 6, .inl I0_cells)), (aI0_selves, .inl (gI G, 6, .inl I0_selves)), (aI0_cries, .inl (gI G, 6, .inl I0_cries)), (aI0_parts, .inl (gI G, 40, .inl I0_parts)), (aI0_past, .inl (gI G, 328, .inl I0_past)), (aI1, .inr (0, [.int I1_width, .int I1_height, .long I1_everywhere, .long I1_firstColumn, .long I1_lastColumn, .ref aI1_grounds, .ref aI1_airs, .ref aI1_tolds, .ref aI1_fees, .ref aI1_lets, .int I1_makers, .ref aI1_kinds, .ref aI1_cells, .ref aI1_selves, .ref aI1_cries, .int I1_leaves, .ref aI1_parts, .int I1_pasts, .ref aI1_past])), (aI1_grounds, .inl (gJ G, 3, .inr (.inl I1_grounds))), (aI1_airs, .inl (gJ G, 6, .inr (.inl I1_airs))), (aI1_tolds, .inl (gJ G, 3, .inr (.inl I1_tolds))), (aI1_fees, .inl (gI G, 6, .inl I1_fees)), (aI1_lets, .inl (gI G, 6, .inl I1_lets)), (aI1_kinds, .inl (gI G, 6, .inl I1_kinds)), (aI1_cells, .inl (gI G, 6, .inl I1_cells)), (aI1_selves, .inl (gI G, 6, .inl I1_selves)), (aI1_cries, .inl (gI G, 6, .inl I1_cries)), (aI1_parts, .inl (gI G, 40, .inl I1_parts)), (aI1_past, .inl (gI G, 328, .inl I1_past))]) (stk := [.int x1]) (rest := []) (As := [.int (-2)]) (q0 := 0) C hE hW (c_Ai_refuse l G aA aA_images aA_kept aA_refused aA_heardBy aN A_draft A_sound A_reader A_refused (-2) hc3) cv_Ai_refuse tw308 hl rfl rfl (Nat.le_of_ble_eq_true rfl) rfl rfl rfl ⟨Nat.le_of_ble_eq_true rfl, Nat.le_of_ble_eq_true rfl⟩ ⟨Nat.zero_le _, Nat.zero_le _⟩ [0, 3] [1, 2, 4, 5, 6, 7, 8, 9, 10, 11, 12, 13, 14, 15, 16, 17, 18, 19, 20, 21, 22, 23, 24, 25, 26, 27, 28, 29, 30, 31, 32, 33, 34, 35, 36, 37, 38, 39] [38, 0, 1, 39, 2, 3, 4, 5, 6, 7, 8, 9, 10, 11, 12, 13, 14, 15, 16, 17, 18, 19, 20, 21, 22, 23, 24, 25, 26, 27, 28, 29, 30, 31, 32, 33, 34, 35, 36, 37] rfl rfl rfl (by decide) rfl rfl rfl rfl d_Ai_image_12 (fun H locs hW => ?_)
    obtain rfl := Option.some.inj h
    exact x_iret C hW rfl rfl hQ d_Ai_image_15
  · intro J9 hJ9 h
    refine lv_if_lt (tgt := 9) C.1.1 C.1.2.1 d_Ai_image_1 (by decide) (fun cc => ?_) (fun cc => ?_)
    · replace h := it_t cc h
      exact hJ9 _ h _ _ _ hW (lv_sub hl [0] rfl)
    · replace h := it_f cc h
      refine lv_iload_n C.1.1 C.1.2.1 d_Ai_image_4 rfl (lv_at hl 1 rfl) ?_
      refine lv_iconst (v := 2) C.1.1 C.1.2.1 d_Ai_image_5 (by decide) ?_
      refine lv_icmp_lt (tgt := 16) C.1.1 C.1.2.1 d_Ai_image_6 (by decide) (fun cc => ?_) (fun cc => ?_)
      · replace h := it_t cc h
        refine lv_aload_n C.1.1 C.1.2.1 d_Ai_image_16 rfl (lv_at hl 0 rfl) ?_
        refine x_get C hE hW fl_Ai_19 0 rfl rfl d_Ai_image_17 ?_
        refine lv_iload_n C.1.1 C.1.2.1 d_Ai_image_20 rfl (lv_at hl 1 rfl) ?_
        rcases Decidable.em (p1 = 0) with c0 | c0
        · replace h := it_t c0 h
          refine x_aald C hE hW 1 rfl (inB_in (by rw [c0]; decide)) (v := .ref aI0) (by rw [c0]; rfl) d_Ai_image_21 ?_
          refine lv_aload_n C.1.1 C.1.2.1 d_Ai_image_22 rfl (lv_at hl 0 rfl) ?_
          refine x_get C hE hW fl_Ai_12 0 rfl rfl d_Ai_image_23 ?_
          obtain ⟨⟨x4, x5, x6, x7, x8, x9, x10, x11, x12, x13, x14, x15, x16, x17, x18, x19, x20, x21, x22⟩, hc23, h⟩ := bd_at h
          refine x_callV (ws' := [(aA, .inr (3, [.ref aN, .ref A_draft, .ref aA_images, .ref aA_kept, .ref A_sound, .ref A_reader, .ref aA_refused, .ref aA_heardBy])), (aA_images, .inl (gO G, 2, .inr (.inr (.inr (.inr (imF aI0 aI1)))))), (aA_kept, .inl (gZ G, 2, .inl A_kept)), (aA_refused, .inl (gI G, 3, .inl A_refused)), (aN, .inr (0, [.int N_width, .int N_height, .long N_everywhere, .long N_firstColumn, .long N_lastColumn, .ref aN_grounds, .ref aN_airs, .ref aN_tolds, .ref aN_fees, .ref aN_lets, .int N_makers, .ref aN_kinds, .ref aN_cells, .ref aN_selves, .ref aN_cries, .int N_leaves, .ref aN_parts, .int N_pasts, .ref aN_past])), (aN_grounds, .inl (gJ G, 3, .inr (.inl N_grounds))), (aN_airs, .inl (gJ G, 6, .inr (.inl N_airs))), (aN_tolds, .inl (gJ G, 3, .inr (.inl N_tolds))), (aN_fees, .inl (gI G, 6, .inl N_fees)), (aN_lets, .inl (gI G, 6, .inl N_lets)), (aN_kinds, .inl (gI G, 6, .inl N_kinds)), (aN_cells, .inl (gI G, 6, .inl N_cells)), (aN_selves, .inl (gI G, 6, .inl N_selves)), (aN_cries, .inl (gI G, 6, .inl N_cries)), (aN_parts, .inl (gI G, 40, .inl N_parts)), (aN_past, .inl (gI G, 328, .inl N_past)), (aI0, .inr (0, [.int x4, .int x5, .long x6, .long x7, .long x8, .ref aI0_grounds, .ref aI0_airs, .ref aI0_tolds, .ref aI0_fees, .ref aI0_lets, .int x14, .ref aI0_kinds, .ref aI0_cells, .ref aI0_selves, .ref aI0_cries, .int x19, .ref aI0_parts, .int x21, .ref aI0_past])), (aI0_grounds, .inl (gJ G, 3, .inr (.inl x9))), (aI0_airs, .inl (gJ G, 6, .inr (.inl x10))), (aI0_tolds, .inl (gJ G, 3, .inr (.inl x11))), (aI0_fees, .inl (gI G, 6, .inl x12)), (aI0_lets, .inl (gI G, 6, .inl x13)), (aI0_kinds, .inl (gI G, 6, .inl x15)), (aI0_cells, .inl (gI G, 6, .inl x16)), (aI0_selves, .inl (gI G, 6, .inl x17)), (aI0_cries, .inl (gI G, 6, .inl x18)), (aI0_parts, .inl (gI G, 40, .inl x20)), (aI0_past, .inl (gI G, 328, .inl x22)), (aI1, .inr (0, [.int I1_width, .int I1_height, .long I1_everywhere, .long I1_firstColumn, .long I1_lastColumn, .ref aI1_grounds, .ref aI1_airs, .ref aI1_tolds, .ref aI1_fees, .ref aI1_lets, .int I1_makers, .ref aI1_kinds, .ref aI1_cells, .ref aI1_selves, .ref aI1_cries, .int I1_leaves, .ref aI1_parts, .int I1_pasts, .ref aI1_past])), (aI1_grounds, .inl (gJ G, 3, .inr (.inl I1_grounds))), (aI1_airs, .inl (gJ G, 6, .inr (.inl I1_airs))), (aI1_tolds, .inl (gJ G, 3, .inr (.inl I1_tolds))), (aI1_fees, .inl (gI G, 6, .inl I1_fees)), (aI1_lets, .inl (gI G, 6, .inl I1_lets)), (aI1_kinds, .inl (gI G, 6, .inl I1_kinds)), (aI1_cells, .inl (gI G, 6, .inl I1_cells)), (aI1_selves, .inl (gI G, 6, .inl I1_selves)), (aI1_cries, .inl (gI G, 6, .inl I1_cries)), (aI1_parts, .inl (gI G, 40, .inl I1_parts)), (aI1_past, .inl (gI G, 328, .inl I1_past))]) (stk := []) (rest := []) (As := [.ref aN]) (q0 := 16) C hE hW (c_Ld_copyFrom l G aI0 aI0_grounds aI0_airs aI0_tolds aI0_fees aI0_lets aI0_kinds aI0_cells aI0_selves aI0_cries aI0_parts aI0_past aN aN_grounds aN_airs aN_tolds aN_fees aN_lets aN_kinds aN_cells aN_selves aN_cries aN_parts aN_past I0_width I0_height I0_everywhere I0_firstColumn I0_lastColumn I0_makers I0_leaves I0_pasts N_width N_height N_everywhere N_firstColumn N_lastColumn N_makers N_leaves N_pasts I0_grounds I0_airs I0_tolds I0_fees I0_lets I0_kinds I0_cells I0_selves I0_cries I0_parts I0_past N_grounds N_airs N_tolds N_fees N_lets N_kinds N_cells N_selves N_cries N_parts N_past hc23) cv_Ld_copyFrom tw779 hl rfl rfl (Nat.le_of_ble_eq_true rfl) rfl rfl rfl ⟨Nat.le_of_ble_eq_true rfl, Nat.le_of_ble_eq_true rfl⟩ ⟨Nat.zero_le _, Nat.zero_le _⟩ [16, 17, 18, 19, 20, 21, 22, 23, 24, 25, 26, 27, 4, 5, 6, 7, 8, 9, 10, 11, 12, 13, 14, 15] [0, 1, 2, 3, 28, 29, 30, 31, 32, 33, 34, 35, 36, 37, 38, 39] [0, 1, 2, 3, 28, 29, 30, 31, 32, 33, 34, 35, 36, 37, 38, 39, 16, 17, 18, 19, 20, 21, 22, 23, 24, 25, 26, 27, 4, 5, 6, 7, 8, 9, 10, 11, 12, 13, 14, 15] rfl rfl rfl (by decide) rfl rfl rfl rfl d_Ai_image_26 (fun H locs hW => ?_)
          refine lv_aload_n C.1.1 C.1.2.1 d_Ai_image_29 rfl (lv_at hl 0 rfl) ?_
          refine x_get C hE hW fl_Ai_23 0 rfl rfl d_Ai_image_30 ?_
          refine lv_iload_n C.1.1 C.1.2.1 d_Ai_image_33 rfl (lv_at hl 1 rfl) ?_
          refine lv_iconst (v := 1) C.1.1 C.1.2.1 d_Ai_image_34 (by decide) ?_
          obtain ⟨hg, h⟩ := gd_at h
          obtain ⟨x24, ex24⟩ : ∃ y : Nat → Int32, y = upd A_kept p1.toNatClampNeg 1 := ⟨_, rfl⟩
          replace h := lt_at ex24 h
          refine x_zast (ws' := [(aA, .inr (3, [.ref aN, .ref A_draft, .ref aA_images, .ref aA_kept, .ref A_sound, .ref A_reader, .ref aA_refused, .ref aA_heardBy])), (aA_images, .inl (gO G, 2, .inr (.inr (.inr (.inr (imF aI0 aI1)))))), (aA_kept, .inl (gZ G, 2, .inl x24)), (aA_refused, .inl (gI G, 3, .inl A_refused)), (aN, .inr (0, [.int N_width, .int N_height, .long N_everywhere, .long N_firstColumn, .long N_lastColumn, .ref aN_grounds, .ref aN_airs, .ref aN_tolds, .ref aN_fees, .ref aN_lets, .int N_makers, .ref aN_kinds, .ref aN_cells, .ref aN_selves, .ref aN_cries, .int N_leaves, .ref aN_parts, .int N_pasts, .ref aN_past])), (aN_grounds, .inl (gJ G, 3, .inr (.inl N_grounds))), (aN_airs, .inl (gJ G, 6, .inr (.inl N_airs))), (aN_tolds, .inl (gJ G, 3, .inr (.inl N_tolds))), (aN_fees, .inl (gI G, 6, .inl N_fees)), (aN_lets, .inl (gI G, 6, .inl N_lets)), (aN_kinds, .inl (gI G, 6, .inl N_kinds)), (aN_cells, .inl (gI G, 6, .inl N_cells)), (aN_selves, .inl (gI G, 6, .inl N_selves)), (aN_cries, .inl (gI G, 6, .inl N_cries)), (aN_parts, .inl (gI G, 40, .inl N_parts)), (aN_past, .inl (gI G, 328, .inl N_past)), (aI0, .inr (0, [.int x4, .int x5, .long x6, .long x7, .long x8, .ref aI0_grounds, .ref aI0_airs, .ref aI0_tolds, .ref aI0_fees, .ref aI0_lets, .int x14, .ref aI0_kinds, .ref aI0_cells, .ref aI0_selves, .ref aI0_cries, .int x19, .ref aI0_parts, .int x21, .ref aI0_past])), (aI0_grounds, .inl (gJ G, 3, .inr (.inl x9))), (aI0_airs, .inl (gJ G, 6, .inr (.inl x10))), (aI0_tolds, .inl (gJ G, 3, .inr (.inl x11))), (aI0_fees, .inl (gI G, 6, .inl x12)), (aI0_lets, .inl (gI G, 6, .inl x13)), (aI0_kinds, .inl (gI G, 6, .inl x15)), (aI0_cells, .inl (gI G, 6, .inl x16)), (aI0_selves, .inl (gI G, 6, .inl x17)), (aI0_cries, .inl (gI G, 6, .inl x18)), (aI0_parts, .inl (gI G, 40, .inl x20)), (aI0_past, .inl (gI G, 328, .inl x22)), (aI1, .inr (0, [.int I1_width, .int I1_height, .long I1_everywhere, .long I1_firstColumn, .long I1_lastColumn, .ref aI1_grounds, .ref aI1_airs, .ref aI1_tolds, .ref aI1_fees, .ref aI1_lets, .int I1_makers, .ref aI1_kinds, .ref aI1_cells, .ref aI1_selves, .ref aI1_cries, .int I1_leaves, .ref aI1_parts, .int I1_pasts, .ref aI1_past])), (aI1_grounds, .inl (gJ G, 3, .inr (.inl I1_grounds))), (aI1_airs, .inl (gJ G, 6, .inr (.inl I1_airs))), (aI1_tolds, .inl (gJ G, 3, .inr (.inl I1_tolds))), (aI1_fees, .inl (gI G, 6, .inl I1_fees)), (aI1_lets, .inl (gI G, 6, .inl I1_lets)), (aI1_kinds, .inl (gI G, 6, .inl I1_kinds)), (aI1_cells, .inl (gI G, 6, .inl I1_cells)), (aI1_selves, .inl (gI G, 6, .inl I1_selves)), (aI1_cries, .inl (gI G, 6, .inl I1_cries)), (aI1_parts, .inl (gI G, 40, .inl I1_parts)), (aI1_past, .inl (gI G, 328, .inl I1_past))]) C hE hW 2 rfl (inB_in hg) rfl (by subst ex24; rfl) d_Ai_image_35 (fun H locs hW => ?_)
          refine lv_iconst (v := 1) C.1.1 C.1.2.1 d_Ai_image_36 (by decide) ?_
          obtain rfl := Option.some.inj h
          exact x_iret C hW rfl rfl hQ d_Ai_image_37
        · replace h := it_f c0 h
          rcases Decidable.em (p1 = 1) with c1 | c1
          · replace h := it_t c1 h
            refine x_aald C hE hW 1 rfl (inB_in (by rw [c1]; decide)) (v := .ref aI1) (by rw [c1]; rfl) d_Ai_image_21 ?_
            refine lv_aload_n C.1.1 C.1.2.1 d_Ai_image_22 rfl (lv_at hl 0 rfl) ?_
            refine x_get C hE hW fl_Ai_12 0 rfl rfl d_Ai_image_23 ?_
            obtain ⟨⟨x25, x26, x27, x28, x29, x30, x31, x32, x33, x34, x35, x36, x37, x38, x39, x40, x41, x42, x43⟩, hc44, h⟩ := bd_at h
            refine x_callV (ws' := [(aA, .inr (3, [.ref aN, .ref A_draft, .ref aA_images, .ref aA_kept, .ref A_sound, .ref A_reader, .ref aA_refused, .ref aA_heardBy])), (aA_images, .inl (gO G, 2, .inr (.inr (.inr (.inr (imF aI0 aI1)))))), (aA_kept, .inl (gZ G, 2, .inl A_kept)), (aA_refused, .inl (gI G, 3, .inl A_refused)), (aN, .inr (0, [.int N_width, .int N_height, .long N_everywhere, .long N_firstColumn, .long N_lastColumn, .ref aN_grounds, .ref aN_airs, .ref aN_tolds, .ref aN_fees, .ref aN_lets, .int N_makers, .ref aN_kinds, .ref aN_cells, .ref aN_selves, .ref aN_cries, .int N_leaves, .ref aN_parts, .int N_pasts, .ref aN_past])), (aN_grounds, .inl (gJ G, 3, .inr (.inl N_grounds))), (aN_airs, .inl (gJ G, 6, .inr (.inl N_airs))), (aN_tolds, .inl (gJ G, 3, .inr (.inl N_tolds))), (aN_fees, .inl (gI G, 6, .inl N_fees)), (aN_lets, .inl (gI G, 6, .inl N_lets)), (aN_kinds, .inl (gI G, 6, .inl N_kinds)), (aN_cells, .inl (gI G, 6, .inl N_cells)), (aN_selves, .inl (gI G, 6, .inl N_selves)), (aN_cries, .inl (gI G, 6, .inl N_cries)), (aN_parts, .inl (gI G, 40, .inl N_parts)), (aN_past, .inl (gI G, 328, .inl N_past)), (aI0, .inr (0, [.int I0_width, .int I0_height, .long I0_everywhere, .long I0_firstColumn, .long I0_lastColumn, .ref aI0_grounds, .ref aI0_airs, .ref aI0_tolds, .ref aI0_fees, .ref aI0_lets, .int I0_makers, .ref aI0_kinds, .ref aI0_cells, .ref aI0_selves, .ref aI0_cries, .int I0_leaves, .ref aI0_parts, .int I0_pasts, .ref aI0_past])), (aI0_grounds, .inl (gJ G, 3, .inr (.inl I0_grounds))), (aI0_airs, .inl (gJ G, 6, .inr (.inl I0_airs))), (aI0_tolds, .inl (gJ G, 3, .inr (.inl I0_tolds))), (aI0_fees, .inl (gI G, 6, .inl I0_fees)), (aI0_lets, .inl (gI G, 6, .inl I0_lets)), (aI0_kinds, .inl (gI G, 6, .inl I0_kinds)), (aI0_cells, .inl (gI G, 6, .inl I0_cells)), (aI0_selves, .inl (gI G, 6, .inl I0_selves)), (aI0_cries, .inl (gI G, 6, .inl I0_cries)), (aI0_parts, .inl (gI G, 40, .inl I0_parts)), (aI0_past, .inl (gI G, 328, .inl I0_past)), (aI1, .inr (0, [.int x25, .int x26, .long x27, .long x28, .long x29, .ref aI1_grounds, .ref aI1_airs, .ref aI1_tolds, .ref aI1_fees, .ref aI1_lets, .int x35, .ref aI1_kinds, .ref aI1_cells, .ref aI1_selves, .ref aI1_cries, .int x40, .ref aI1_parts, .int x42, .ref aI1_past])), (aI1_grounds, .inl (gJ G, 3, .inr (.inl x30))), (aI1_airs, .inl (gJ G, 6, .inr (.inl x31))), (aI1_tolds, .inl (gJ G, 3, .inr (.inl x32))), (aI1_fees, .inl (gI G, 6, .inl x33)), (aI1_lets, .inl (gI G, 6, .inl x34)), (aI1_kinds, .inl (gI G, 6, .inl x36)), (aI1_cells, .inl (gI G, 6, .inl x37)), (aI1_selves, .inl (gI G, 6, .inl x38)), (aI1_cries, .inl (gI G, 6, .inl x39)), (aI1_parts, .inl (gI G, 40, .inl x41)), (aI1_past, .inl (gI G, 328, .inl x43))]) (stk := []) (rest := []) (As := [.ref aN]) (q0 := 28) C hE hW (c_Ld_copyFrom l G aI1 aI1_grounds aI1_airs aI1_tolds aI1_fees aI1_lets aI1_kinds aI1_cells aI1_selves aI1_cries aI1_parts aI1_past aN aN_grounds aN_airs aN_tolds aN_fees aN_lets aN_kinds aN_cells aN_selves aN_cries aN_parts aN_past I1_width I1_height I1_everywhere I1_firstColumn I1_lastColumn I1_makers I1_leaves I1_pasts N_width N_height N_everywhere N_firstColumn N_lastColumn N_makers N_leaves N_pasts I1_grounds I1_airs I1_tolds I1_fees I1_lets I1_kinds I1_cells I1_selves I1_cries I1_parts I1_past N_grounds N_airs N_tolds N_fees N_lets N_kinds N_cells N_selves N_cries N_parts N_past hc44) cv_Ld_copyFrom tw779 hl rfl rfl (Nat.le_of_ble_eq_true rfl) rfl rfl rfl ⟨Nat.le_of_ble_eq_true rfl, Nat.le_of_ble_eq_true rfl⟩ ⟨Nat.zero_le _, Nat.zero_le _⟩ [28, 29, 30, 31, 32, 33, 34, 35, 36, 37, 38, 39, 4, 5, 6, 7, 8, 9, 10, 11, 12, 13, 14, 15] [0, 1, 2, 3, 16, 17, 18, 19, 20, 21, 22, 23, 24, 25, 26, 27] [0, 1, 2, 3, 28, 29, 30, 31, 32, 33, 34, 35, 36, 37, 38, 39, 4, 5, 6, 7, 8, 9, 10, 11, 12, 13, 14, 15, 16, 17, 18, 19, 20, 21, 22, 23, 24, 25, 26, 27] rfl rfl rfl (by decide) rfl rfl rfl rfl d_Ai_image_26 (fun H locs hW => ?_)
            refine lv_aload_n C.1.1 C.1.2.1 d_Ai_image_29 rfl (lv_at hl 0 rfl) ?_
            refine x_get C hE hW fl_Ai_23 0 rfl rfl d_Ai_image_30 ?_
            refine lv_iload_n C.1.1 C.1.2.1 d_Ai_image_33 rfl (lv_at hl 1 rfl) ?_
            refine lv_iconst (v := 1) C.1.1 C.1.2.1 d_Ai_image_34 (by decide) ?_
            obtain ⟨hg, h⟩ := gd_at h
            obtain ⟨x45, ex45⟩ : ∃ y : Nat → Int32, y = upd A_kept p1.toNatClampNeg 1 := ⟨_, rfl⟩
            replace h := lt_at ex45 h
            refine x_zast (ws' := [(aA, .inr (3, [.ref aN, .ref A_draft, .ref aA_images, .ref aA_kept, .ref A_sound, .ref A_reader, .ref aA_refused, .ref aA_heardBy])), (aA_images, .inl (gO G, 2, .inr (.inr (.inr (.inr (imF aI0 aI1)))))), (aA_kept, .inl (gZ G, 2, .inl x45)), (aA_refused, .inl (gI G, 3, .inl A_refused)), (aN, .inr (0, [.int N_width, .int N_height, .long N_everywhere, .long N_firstColumn, .long N_lastColumn, .ref aN_grounds, .ref aN_airs, .ref aN_tolds, .ref aN_fees, .ref aN_lets, .int N_makers, .ref aN_kinds, .ref aN_cells, .ref aN_selves, .ref aN_cries, .int N_leaves, .ref aN_parts, .int N_pasts, .ref aN_past])), (aN_grounds, .inl (gJ G, 3, .inr (.inl N_grounds))), (aN_airs, .inl (gJ G, 6, .inr (.inl N_airs))), (aN_tolds, .inl (gJ G, 3, .inr (.inl N_tolds))), (aN_fees, .inl (gI G, 6, .inl N_fees)), (aN_lets, .inl (gI G, 6, .inl N_lets)), (aN_kinds, .inl (gI G, 6, .inl N_kinds)), (aN_cells, .inl (gI G, 6, .inl N_cells)), (aN_selves, .inl (gI G, 6, .inl N_selves)), (aN_cries, .inl (gI G, 6, .inl N_cries)), (aN_parts, .inl (gI G, 40, .inl N_parts)), (aN_past, .inl (gI G, 328, .inl N_past)), (aI0, .inr (0, [.int I0_width, .int I0_height, .long I0_everywhere, .long I0_firstColumn, .long I0_lastColumn, .ref aI0_grounds, .ref aI0_airs, .ref aI0_tolds, .ref aI0_fees, .ref aI0_lets, .int I0_makers, .ref aI0_kinds, .ref aI0_cells, .ref aI0_selves, .ref aI0_cries, .int I0_leaves, .ref aI0_parts, .int I0_pasts, .ref aI0_past])), (aI0_grounds, .inl (gJ G, 3, .inr (.inl I0_grounds))), (aI0_airs, .inl (gJ G, 6, .inr (.inl I0_airs))), (aI0_tolds, .inl (gJ G, 3, .inr (.inl I0_tolds))), (aI0_fees, .inl (gI G, 6, .inl I0_fees)), (aI0_lets, .inl (gI G, 6, .inl I0_lets)), (aI0_kinds, .inl (gI G, 6, .inl I0_kinds)), (aI0_cells, .inl (gI G, 6, .inl I0_cells)), (aI0_selves, .inl (gI G, 6, .inl I0_selves)), (aI0_cries, .inl (gI G, 6, .inl I0_cries)), (aI0_parts, .inl (gI G, 40, .inl I0_parts)), (aI0_past, .inl (gI G, 328, .inl I0_past)), (aI1, .inr (0, [.int x25, .int x26, .long x27, .long x28, .long x29, .ref aI1_grounds, .ref aI1_airs, .ref aI1_tolds, .ref aI1_fees, .ref aI1_lets, .int x35, .ref aI1_kinds, .ref aI1_cells, .ref aI1_selves, .ref aI1_cries, .int x40, .ref aI1_parts, .int x42, .ref aI1_past])), (aI1_grounds, .inl (gJ G, 3, .inr (.inl x30))), (aI1_airs, .inl (gJ G, 6, .inr (.inl x31))), (aI1_tolds, .inl (gJ G, 3, .inr (.inl x32))), (aI1_fees, .inl (gI G, 6, .inl x33)), (aI1_lets, .inl (gI G, 6, .inl x34)), (aI1_kinds, .inl (gI G, 6, .inl x36)), (aI1_cells, .inl (gI G, 6, .inl x37)), (aI1_selves, .inl (gI G, 6, .inl x38)), (aI1_cries, .inl (gI G, 6, .inl x39)), (aI1_parts, .inl (gI G, 40, .inl x41)), (aI1_past, .inl (gI G, 328, .inl x43))]) C hE hW 2 rfl (inB_in hg) rfl (by subst ex45; rfl) d_Ai_image_35 (fun H locs hW => ?_)
            refine lv_iconst (v := 1) C.1.1 C.1.2.1 d_Ai_image_36 (by decide) ?_
            obtain rfl := Option.some.inj h
            exact x_iret C hW rfl rfl hQ d_Ai_image_37
          · replace h := it_f c1 h
            cases h
      · replace h := it_f cc h
        exact hJ9 _ h _ _ _ hW (lv_sub hl [0] rfl)
set_option maxHeartbeats 4000000 in
set_option maxRecDepth 100000 in
theorem c_Ai_from (l : Launch) (G : Gl) (aA : Nat) (aA_images : Nat) (aA_kept : Nat) (aA_refused : Nat) (aA_heardBy : Nat) (aN : Nat) (aN_grounds : Nat) (aN_airs : Nat) (aN_tolds : Nat) (aN_fees : Nat) (aN_lets : Nat) (aN_kinds : Nat) (aN_cells : Nat) (aN_selves : Nat) (aN_cries : Nat) (aN_parts : Nat) (aN_past : Nat) (aI0 : Nat) (aI0_grounds : Nat) (aI0_airs : Nat) (aI0_tolds : Nat) (aI0_fees : Nat) (aI0_lets : Nat) (aI0_kinds : Nat) (aI0_cells : Nat) (aI0_selves : Nat) (aI0_cries : Nat) (aI0_parts : Nat) (aI0_past : Nat) (aI1 : Nat) (aI1_grounds : Nat) (aI1_airs : Nat) (aI1_tolds : Nat) (aI1_fees : Nat) (aI1_lets : Nat) (aI1_kinds : Nat) (aI1_cells : Nat) (aI1_selves : Nat) (aI1_cries : Nat) (aI1_parts : Nat) (aI1_past : Nat) (A_draft : Nat) (A_sound : Nat) (A_reader : Nat) (N_width : Int32) (N_height : Int32) (N_everywhere : Int64) (N_firstColumn : Int64) (N_lastColumn : Int64) (N_makers : Int32) (N_leaves : Int32) (N_pasts : Int32) (I0_width : Int32) (I0_height : Int32) (I0_everywhere : Int64) (I0_firstColumn : Int64) (I0_lastColumn : Int64) (I0_makers : Int32) (I0_leaves : Int32) (I0_pasts : Int32) (I1_width : Int32) (I1_height : Int32) (I1_everywhere : Int64) (I1_firstColumn : Int64) (I1_lastColumn : Int64) (I1_makers : Int32) (I1_leaves : Int32) (I1_pasts : Int32) (A_kept : Nat → Int32) (A_refused : Nat → Int32) (N_grounds : Nat → Int64) (N_airs : Nat → Int64) (N_tolds : Nat → Int64) (N_fees : Nat → Int32) (N_lets : Nat → Int32) (N_kinds : Nat → Int32) (N_cells : Nat → Int32) (N_selves : Nat → Int32) (N_cries : Nat → Int32) (N_parts : Nat → Int32) (N_past : Nat → Int32) (I0_grounds : Nat → Int64) (I0_airs : Nat → Int64) (I0_tolds : Nat → Int64) (I0_fees : Nat → Int32) (I0_lets : Nat → Int32) (I0_kinds : Nat → Int32) (I0_cells : Nat → Int32) (I0_selves : Nat → Int32) (I0_cries : Nat → Int32) (I0_parts : Nat → Int32) (I0_past : Nat → Int32) (I1_grounds : Nat → Int64) (I1_airs : Nat → Int64) (I1_tolds : Nat → Int64) (I1_fees : Nat → Int32) (I1_lets : Nat → Int32) (I1_kinds : Nat → Int32) (I1_cells : Nat → Int32) (I1_selves : Nat → Int32) (I1_cries : Nat → Int32) (I1_parts : Nat → Int32) (I1_past : Nat → Int32) (p1 : Int32) {res : Int32 × (Nat → Int32) × Int32 × Int32 × Int64 × Int64 × Int64 × (Nat → Int64) × (Nat → Int64) × (Nat → Int64) × (Nat → Int32) × (Nat → Int32) × Int32 × (Nat → Int32) × (Nat → Int32) × (Nat → Int32) × (Nat → Int32) × Int32 × (Nat → Int32) × Int32 × (Nat → Int32)} (h : f_Ai_from N_width N_height N_everywhere N_firstColumn N_lastColumn N_makers N_leaves N_pasts I0_width I0_height I0_everywhere I0_firstColumn I0_lastColumn I0_makers I0_leaves I0_pasts I1_width I1_height I1_everywhere I1_firstColumn I1_lastColumn I1_makers I1_leaves I1_pasts A_kept A_refused N_grounds N_airs N_tolds N_fees N_lets N_kinds N_cells N_selves N_cries N_parts N_past I0_grounds I0_airs I0_tolds I0_fees I0_lets I0_kinds I0_cells I0_selves I0_cries I0_parts I0_past I1_grounds I1_airs I1_tolds I1_fees I1_lets I1_kinds I1_cells I1_selves I1_cries I1_parts I1_past p1 = some res) : Ct l y_Ai_from b_Ai_from 2 (some .int) 2 61 G [.ref aA, .int p1] [(aA, .inr (3, [.ref aN, .ref A_draft, .ref aA_images, .ref aA_kept, .ref A_sound, .ref A_reader, .ref aA_refused, .ref aA_heardBy])), (aA_images, .inl (gO G, 2, .inr (.inr (.inr (.inr (imF aI0 aI1)))))), (aA_kept, .inl (gZ G, 2, .inl A_kept)), (aA_refused, .inl (gI G, 3, .inl A_refused)), (aN, .inr (0, [.int N_width, .int N_height, .long N_everywhere, .long N_firstColumn, .long N_lastColumn, .ref aN_grounds, .ref aN_airs, .ref aN_tolds, .ref aN_fees, .ref aN_lets, .int N_makers, .ref aN_kinds, .ref aN_cells, .ref aN_selves, .ref aN_cries, .int N_leaves, .ref aN_parts, .int N_pasts, .ref aN_past])), (aN_grounds, .inl (gJ G, 3, .inr (.inl N_grounds))), (aN_airs, .inl (gJ G, 6, .inr (.inl N_airs))), (aN_tolds, .inl (gJ G, 3, .inr (.inl N_tolds))), (aN_fees, .inl (gI G, 6, .inl N_fees)), (aN_lets, .inl (gI G, 6, .inl N_lets)), (aN_kinds, .inl (gI G, 6, .inl N_kinds)), (aN_cells, .inl (gI G, 6, .inl N_cells)), (aN_selves, .inl (gI G, 6, .inl N_selves)), (aN_cries, .inl (gI G, 6, .inl N_cries)), (aN_parts, .inl (gI G, 40, .inl N_parts)), (aN_past, .inl (gI G, 328, .inl N_past)), (aI0, .inr (0, [.int I0_width, .int I0_height, .long I0_everywhere, .long I0_firstColumn, .long I0_lastColumn, .ref aI0_grounds, .ref aI0_airs, .ref aI0_tolds, .ref aI0_fees, .ref aI0_lets, .int I0_makers, .ref aI0_kinds, .ref aI0_cells, .ref aI0_selves, .ref aI0_cries, .int I0_leaves, .ref aI0_parts, .int I0_pasts, .ref aI0_past])), (aI0_grounds, .inl (gJ G, 3, .inr (.inl I0_grounds))), (aI0_airs, .inl (gJ G, 6, .inr (.inl I0_airs))), (aI0_tolds, .inl (gJ G, 3, .inr (.inl I0_tolds))), (aI0_fees, .inl (gI G, 6, .inl I0_fees)), (aI0_lets, .inl (gI G, 6, .inl I0_lets)), (aI0_kinds, .inl (gI G, 6, .inl I0_kinds)), (aI0_cells, .inl (gI G, 6, .inl I0_cells)), (aI0_selves, .inl (gI G, 6, .inl I0_selves)), (aI0_cries, .inl (gI G, 6, .inl I0_cries)), (aI0_parts, .inl (gI G, 40, .inl I0_parts)), (aI0_past, .inl (gI G, 328, .inl I0_past)), (aI1, .inr (0, [.int I1_width, .int I1_height, .long I1_everywhere, .long I1_firstColumn, .long I1_lastColumn, .ref aI1_grounds, .ref aI1_airs, .ref aI1_tolds, .ref aI1_fees, .ref aI1_lets, .int I1_makers, .ref aI1_kinds, .ref aI1_cells, .ref aI1_selves, .ref aI1_cries, .int I1_leaves, .ref aI1_parts, .int I1_pasts, .ref aI1_past])), (aI1_grounds, .inl (gJ G, 3, .inr (.inl I1_grounds))), (aI1_airs, .inl (gJ G, 6, .inr (.inl I1_airs))), (aI1_tolds, .inl (gJ G, 3, .inr (.inl I1_tolds))), (aI1_fees, .inl (gI G, 6, .inl I1_fees)), (aI1_lets, .inl (gI G, 6, .inl I1_lets)), (aI1_kinds, .inl (gI G, 6, .inl I1_kinds)), (aI1_cells, .inl (gI G, 6, .inl I1_cells)), (aI1_selves, .inl (gI G, 6, .inl I1_selves)), (aI1_cries, .inl (gI G, 6, .inl I1_cries)), (aI1_parts, .inl (gI G, 40, .inl I1_parts)), (aI1_past, .inl (gI G, 328, .inl I1_past))] (some (.int res.1)) [(aA, .inr (3, [.ref aN, .ref A_draft, .ref aA_images, .ref aA_kept, .ref A_sound, .ref A_reader, .ref aA_refused, .ref aA_heardBy])), (aA_images, .inl (gO G, 2, .inr (.inr (.inr (.inr (imF aI0 aI1)))))), (aA_kept, .inl (gZ G, 2, .inl A_kept)), (aA_refused, .inl (gI G, 3, .inl (res.2.1))), (aN, .inr (0, [.int (res.2.2.1), .int (res.2.2.2.1), .long (res.2.2.2.2.1), .long (res.2.2.2.2.2.1), .long (res.2.2.2.2.2.2.1), .ref aN_grounds, .ref aN_airs, .ref aN_tolds, .ref aN_fees, .ref aN_lets, .int (res.2.2.2.2.2.2.2.2.2.2.2.2.1), .ref aN_kinds, .ref aN_cells, .ref aN_selves, .ref aN_cries, .int (res.2.2.2.2.2.2.2.2.2.2.2.2.2.2.2.2.2.1), .ref aN_parts, .int (res.2.2.2.2.2.2.2.2.2.2.2.2.2.2.2.2.2.2.2.1), .ref aN_past])), (aN_grounds, .inl (gJ G, 3, .inr (.inl (res.2.2.2.2.2.2.2.1)))), (aN_airs, .inl (gJ G, 6, .inr (.inl (res.2.2.2.2.2.2.2.2.1)))), (aN_tolds, .inl (gJ G, 3, .inr (.inl (res.2.2.2.2.2.2.2.2.2.1)))), (aN_fees, .inl (gI G, 6, .inl (res.2.2.2.2.2.2.2.2.2.2.1))), (aN_lets, .inl (gI G, 6, .inl (res.2.2.2.2.2.2.2.2.2.2.2.1))), (aN_kinds, .inl (gI G, 6, .inl (res.2.2.2.2.2.2.2.2.2.2.2.2.2.1))), (aN_cells, .inl (gI G, 6, .inl (res.2.2.2.2.2.2.2.2.2.2.2.2.2.2.1))), (aN_selves, .inl (gI G, 6, .inl (res.2.2.2.2.2.2.2.2.2.2.2.2.2.2.2.1))), (aN_cries, .inl (gI G, 6, .inl (res.2.2.2.2.2.2.2.2.2.2.2.2.2.2.2.2.1))), (aN_parts, .inl (gI G, 40, .inl (res.2.2.2.2.2.2.2.2.2.2.2.2.2.2.2.2.2.2.1))), (aN_past, .inl (gI G, 328, .inl (res.2.2.2.2.2.2.2.2.2.2.2.2.2.2.2.2.2.2.2.2))), (aI0, .inr (0, [.int I0_width, .int I0_height, .long I0_everywhere, .long I0_firstColumn, .long I0_lastColumn, .ref aI0_grounds, .ref aI0_airs, .ref aI0_tolds, .ref aI0_fees, .ref aI0_lets, .int I0_makers, .ref aI0_kinds, .ref aI0_cells, .ref aI0_selves, .ref aI0_cries, .int I0_leaves, .ref aI0_parts, .int I0_pasts, .ref aI0_past])), (aI0_grounds, .inl (gJ G, 3, .inr (.inl I0_grounds))), (aI0_airs, .inl (gJ G, 6, .inr (.inl I0_airs))), (aI0_tolds, .inl (gJ G, 3, .inr (.inl I0_tolds))), (aI0_fees, .inl (gI G, 6, .inl I0_fees)), (aI0_lets, .inl (gI G, 6, .inl I0_lets)), (aI0_kinds, .inl (gI G, 6, .inl I0_kinds)), (aI0_cells, .inl (gI G, 6, .inl I0_cells)), (aI0_selves, .inl (gI G, 6, .inl I0_selves)), (aI0_cries, .inl (gI G, 6, .inl I0_cries)), (aI0_parts, .inl (gI G, 40, .inl I0_parts)), (aI0_past, .inl (gI G, 328, .inl I0_past)), (aI1, .inr (0, [.int I1_width, .int I1_height, .long I1_everywhere, .long I1_firstColumn, .long I1_lastColumn, .ref aI1_grounds, .ref aI1_airs, .ref aI1_tolds, .ref aI1_fees, .ref aI1_lets, .int I1_makers, .ref aI1_kinds, .ref aI1_cells, .ref aI1_selves, .ref aI1_cries, .int I1_leaves, .ref aI1_parts, .int I1_pasts, .ref aI1_past])), (aI1_grounds, .inl (gJ G, 3, .inr (.inl I1_grounds))), (aI1_airs, .inl (gJ G, 6, .inr (.inl I1_airs))), (aI1_tolds, .inl (gJ G, 3, .inr (.inl I1_tolds))), (aI1_fees, .inl (gI G, 6, .inl I1_fees)), (aI1_lets, .inl (gI G, 6, .inl I1_lets)), (aI1_kinds, .inl (gI G, 6, .inl I1_kinds)), (aI1_cells, .inl (gI G, 6, .inl I1_cells)), (aI1_selves, .inl (gI G, 6, .inl I1_selves)), (aI1_cries, .inl (gI G, 6, .inl I1_cries)), (aI1_parts, .inl (gI G, 40, .inl I1_parts)), (aI1_past, .inl (gI G, 328, .inl I1_past))] := by
  refine Ct.mk (by decide) (Nat.le_of_ble_eq_true rfl) ?_
  intro p e s m args below meth c ls A Q C hE hW hl hQ
  have C : Cx p s args m c meth "LentAir" y_Ai_from b_Ai_from 2 (some .int) := C
  have hl : lv_has ls 2 [(0, .ref aA), (1, .int p1)] := hl
  unfold f_Ai_from at h
  refine lv_iload_n C.1.1 C.1.2.1 d_Ai_from_0 rfl (lv_at hl 1 rfl) ?_
  refine jn_at (P := fun (_ : Unit) => ∀ (H : Heap) (locs : List Loc) (ls : Array Slot), Wd G A s.heap H locs [(aA, .inr (3, [.ref aN, .ref A_draft, .ref aA_images, .ref aA_kept, .ref A_sound, .ref A_reader, .ref aA_refused, .ref aA_heardBy])), (aA_images, .inl (gO G, 2, .inr (.inr (.inr (.inr (imF aI0 aI1)))))), (aA_kept, .inl (gZ G, 2, .inl A_kept)), (aA_refused, .inl (gI G, 3, .inl A_refused)), (aN, .inr (0, [.int N_width, .int N_height, .long N_everywhere, .long N_firstColumn, .long N_lastColumn, .ref aN_grounds, .ref aN_airs, .ref aN_tolds, .ref aN_fees, .ref aN_lets, .int N_makers, .ref aN_kinds, .ref aN_cells, .ref aN_selves, .ref aN_cries, .int N_leaves, .ref aN_parts, .int N_pasts, .ref aN_past])), (aN_grounds, .inl (gJ G, 3, .inr (.inl N_grounds))), (aN_airs, .inl (gJ G, 6, .inr (.inl N_airs))), (aN_tolds, .inl (gJ G, 3, .inr (.inl N_tolds))), (aN_fees, .inl (gI G, 6, .inl N_fees)), (aN_lets, .inl (gI G, 6, .inl N_lets)), (aN_kinds, .inl (gI G, 6, .inl N_kinds)), (aN_cells, .inl (gI G, 6, .inl N_cells)), (aN_selves, .inl (gI G, 6, .inl N_selves)), (aN_cries, .inl (gI G, 6, .inl N_cries)), (aN_parts, .inl (gI G, 40, .inl N_parts)), (aN_past, .inl (gI G, 328, .inl N_past)), (aI0, .inr (0, [.int I0_width, .int I0_height, .long I0_everywhere, .long I0_firstColumn, .long I0_lastColumn, .ref aI0_grounds, .ref aI0_airs, .ref aI0_tolds, .ref aI0_fees, .ref aI0_lets, .int I0_makers, .ref aI0_kinds, .ref aI0_cells, .ref aI0_selves, .ref aI0_cries, .int I0_leaves, .ref aI0_parts, .int I0_pasts, .ref aI0_past])), (aI0_grounds, .inl (gJ G, 3, .inr (.inl I0_grounds))), (aI0_airs, .inl (gJ G, 6, .inr (.inl I0_airs))), (aI0_tolds, .inl (gJ G, 3, .inr (.inl I0_tolds))), (aI0_fees, .inl (gI G, 6, .inl I0_fees)), (aI0_lets, .inl (gI G, 6, .inl I0_lets)), (aI0_kinds, .inl (gI G, 6, .inl I0_kinds)), (aI0_cells, .inl (gI G, 6, .inl I0_cells)), (aI0_selves, .inl (gI G, 6, .inl I0_selves)), (aI0_cries, .inl (gI G, 6, .inl I0_cries)), (aI0_parts, .inl (gI G, 40, .inl I0_parts)), (aI0_past, .inl (gI G, 328, .inl I0_past)), (aI1, .inr (0, [.int I1_width, .int I1_height, .long I1_everywhere, .long I1_firstColumn, .long I1_lastColumn, .ref aI1_grounds, .ref aI1_airs, .ref aI1_tolds, .ref aI1_fees, .ref aI1_lets, .int I1_makers, .ref aI1_kinds, .ref aI1_cells, .ref aI1_selves, .ref aI1_cries, .int I1_leaves, .ref aI1_parts, .int I1_pasts, .ref aI1_past])), (aI1_grounds, .inl (gJ G, 3, .inr (.inl I1_grounds))), (aI1_airs, .inl (gJ G, 6, .inr (.inl I1_airs))), (aI1_tolds, .inl (gJ G, 3, .inr (.inl I1_tolds))), (aI1_fees, .inl (gI G, 6, .inl I1_fees)), (aI1_lets, .inl (gI G, 6, .inl I1_lets)), (aI1_kinds, .inl (gI G, 6, .inl I1_kinds)), (aI1_cells, .inl (gI G, 6, .inl I1_cells)), (aI1_selves, .inl (gI G, 6, .inl I1_selves)), (aI1_cries, .inl (gI G, 6, .inl I1_cries)), (aI1_parts, .inl (gI G, 40, .inl I1_parts)), (aI1_past, .inl (gI G, 328, .inl I1_past))] → lv_has ls 2 [(0, .ref aA)] → W p l e (RM 2 61) s m args below meth c H locs 0 0 Q (F0 m 9 ls [])) h ?_ ?_
  · skip
    intro _ h
    intro H locs ls hW hl
    refine lv_aload_n C.1.1 C.1.2.1 d_Ai_from_9 rfl (lv_at hl 0 rfl) ?_
    refine lv_bipush (v := (-2)) C.1.1 C.1.2.1 d_Ai_from_10 (by decide) ?_
    obtain ⟨⟨x1, x2⟩, hc3, h⟩ := bd_at h
    refine x_callV (ws' := [(aA, .inr (3, [.ref aN, .ref A_draft, .ref aA_images, .ref aA_kept, .ref A_sound, .ref A_reader, .ref aA_refused, .ref aA_heardBy])), (aA_images, .inl (gO G, 2, .inr (.inr (.inr (.inr (imF aI0 aI1)))))), (aA_kept, .inl (gZ G, 2, .inl A_kept)), (aA_refused, .inl (gI G, 3, .inl x2)), (aN, .inr (0, [.int N_width, .int N_height, .long N_everywhere, .long N_firstColumn, .long N_lastColumn, .ref aN_grounds, .ref aN_airs, .ref aN_tolds, .ref aN_fees, .ref aN_lets, .int N_makers, .ref aN_kinds, .ref aN_cells, .ref aN_selves, .ref aN_cries, .int N_leaves, .ref aN_parts, .int N_pasts, .ref aN_past])), (aN_grounds, .inl (gJ G, 3, .inr (.inl N_grounds))), (aN_airs, .inl (gJ G, 6, .inr (.inl N_airs))), (aN_tolds, .inl (gJ G, 3, .inr (.inl N_tolds))), (aN_fees, .inl (gI G, 6, .inl N_fees)), (aN_lets, .inl (gI G, 6, .inl N_lets)), (aN_kinds, .inl (gI G, 6, .inl N_kinds)), (aN_cells, .inl (gI G, 6, .inl N_cells)), (aN_selves, .inl (gI G, 6, .inl N_selves)), (aN_cries, .inl (gI G, 6, .inl N_cries)), (aN_parts, .inl (gI G, 40, .inl N_parts)), (aN_past, .inl (gI G, 328, .inl N_past)), (aI0, .inr (0, [.int I0_width, .int I0_height, .long I0_everywhere, .long I0_firstColumn, .long I0_lastColumn, .ref aI0_grounds, .ref aI0_airs, .ref aI0_tolds, .ref aI0_fees, .ref aI0_lets, .int I0_makers, .ref aI0_kinds, .ref aI0_cells, .ref aI0_selves, .ref aI0_cries, .int I0_leaves, .ref aI0_parts, .int I0_pasts, .ref aI0_past])), (aI0_grounds, .inl (gJ G, 3, .inr (.inl I0_grounds))), (aI0_airs, .inl (gJ G, 6, .inr (.inl I0_airs))), (aI0_tolds, .inl (gJ G, 3, .inr (.inl I0_tolds))), (aI0_fees, .inl (gI G, 6, .inl I0_fees)), (aI0_lets, .inl (gI G, 6, .inl I0_lets)), (aI0_kinds, .inl (gI G, 6, .inl I0_kinds)), (aI0_cells, .inl (gI G, 6, .inl I0_cells)), (aI0_selves, .inl (gI G, 6, .inl I0_selves)), (aI0_cries, .inl (gI G, 6, .inl I0_cries)), (aI0_parts, .inl (gI G, 40, .inl I0_parts)), (aI0_past, .inl (gI G, 328, .inl I0_past)), (aI1, .inr (0, [.int I1_width, .int I1_height, .long I1_everywhere, .long I1_firstColumn, .long I1_lastColumn, .ref aI1_grounds, .ref aI1_airs, .ref aI1_tolds, .ref aI1_fees, .ref aI1_lets, .int I1_makers, .ref aI1_kinds, .ref aI1_cells, .ref aI1_selves, .ref aI1_cries, .int I1_leaves, .ref aI1_parts, .int I1_pasts, .ref aI1_past])), (aI1_grounds, .inl (gJ G, 3, .inr (.inl I1_grounds))), (aI1_airs, .inl (gJ G, 6, .inr (.inl I1_airs))), (aI1_tolds, .inl (gJ G, 3, .inr (.inl I1_tolds))), (aI1_fees, .inl (gI G, 6, .inl I1_fees)), (aI1_lets, .inl (gI G, 6, .inl I1_lets)), (aI1_kinds, .inl (gI G, 6, .inl I1_kinds)), (aI1_cells, .inl (gI G, 6, .inl I1_cells)), (aI1_selves, .inl (gI G, 6, .inl I1_selves)), (aI1_cries, .inl (gI G, 6, .inl I1_cries)), (aI1_parts, .inl (gI G, 40, .inl I1_parts)), (aI1_past, .inl (gI G, 328, .inl I1_past))]) (stk := [.int x1]) (rest := []) (As := [.int (-2)]) (q0 := 0) C hE hW (c_Ai_refuse l G aA aA_images aA_kept aA_refused aA_heardBy aN A_draft A_sound A_reader A_refused (-2) hc3) cv_Ai_refuse tw308 hl rfl rfl (Nat.le_of_ble_eq_true rfl) rfl rfl rfl ⟨Nat.le_of_ble_eq_true rfl, Nat.le_of_ble_eq_true rfl⟩ ⟨Nat.zero_le _, Nat.zero_le _⟩ [0, 3] [1, 2, 4, 5, 6, 7, 8, 9, 10, 11, 12, 13, 14, 15, 16, 17, 18, 19, 20, 21, 22, 23, 24, 25, 26, 27, 28, 29, 30, 31, 32, 33, 34, 35, 36, 37, 38, 39] [38, 0, 1, 39, 2, 3, 4, 5, 6, 7, 8, 9, 10, 11, 12, 13, 14, 15, 16, 17, 18, 19, 20, 21, 22, 23, 24, 25, 26, 27, 28, 29, 30, 31, 32, 33, 34, 35, 36, 37] rfl rfl rfl (by decide) rfl rfl rfl rfl d_Ai_from_12 (fun H locs hW => ?_)
    obtain rfl := Option.some.inj h
    exact x_iret C hW rfl rfl hQ d_Ai_from_15
  · intro J9 hJ9 h
    refine lv_if_lt (tgt := 9) C.1.1 C.1.2.1 d_Ai_from_1 (by decide) (fun cc => ?_) (fun cc => ?_)
    · replace h := it_t cc h
      exact hJ9 _ h _ _ _ hW (lv_sub hl [0] rfl)
    · replace h := it_f cc h
      refine lv_iload_n C.1.1 C.1.2.1 d_Ai_from_4 rfl (lv_at hl 1 rfl) ?_
      refine lv_iconst (v := 2) C.1.1 C.1.2.1 d_Ai_from_5 (by decide) ?_
      refine lv_icmp_lt (tgt := 16) C.1.1 C.1.2.1 d_Ai_from_6 (by decide) (fun cc => ?_) (fun cc => ?_)
      · replace h := it_t cc h
        refine lv_aload_n C.1.1 C.1.2.1 d_Ai_from_16 rfl (lv_at hl 0 rfl) ?_
        refine x_get C hE hW fl_Ai_23 0 rfl rfl d_Ai_from_17 ?_
        refine lv_iload_n C.1.1 C.1.2.1 d_Ai_from_20 rfl (lv_at hl 1 rfl) ?_
        obtain ⟨hg, h⟩ := gd_at h
        refine x_zald C hE hW 2 rfl (inB_in hg) d_Ai_from_21 ?_
        refine lv_if_ne (tgt := 32) C.1.1 C.1.2.1 d_Ai_from_22 (by decide) (fun cc => ?_) (fun cc => ?_)
        · replace h := it_f cc h
          refine lv_aload_n C.1.1 C.1.2.1 d_Ai_from_32 rfl (lv_at hl 0 rfl) ?_
          refine x_get C hE hW fl_Ai_12 0 rfl rfl d_Ai_from_33 ?_
          refine lv_aload_n C.1.1 C.1.2.1 d_Ai_from_36 rfl (lv_at hl 0 rfl) ?_
          refine x_get C hE hW fl_Ai_19 0 rfl rfl d_Ai_from_37 ?_
          refine lv_iload_n C.1.1 C.1.2.1 d_Ai_from_40 rfl (lv_at hl 1 rfl) ?_
          rcases Decidable.em (p1 = 0) with c0 | c0
          · replace h := it_t c0 h
            refine x_aald C hE hW 1 rfl (inB_in (by rw [c0]; decide)) (v := .ref aI0) (by rw [c0]; rfl) d_Ai_from_41 ?_
            obtain ⟨⟨x4, x5, x6, x7, x8, x9, x10, x11, x12, x13, x14, x15, x16, x17, x18, x19, x20, x21, x22⟩, hc23, h⟩ := bd_at h
            refine x_callV (ws' := [(aA, .inr (3, [.ref aN, .ref A_draft, .ref aA_images, .ref aA_kept, .ref A_sound, .ref A_reader, .ref aA_refused, .ref aA_heardBy])), (aA_images, .inl (gO G, 2, .inr (.inr (.inr (.inr (imF aI0 aI1)))))), (aA_kept, .inl (gZ G, 2, .inl A_kept)), (aA_refused, .inl (gI G, 3, .inl A_refused)), (aN, .inr (0, [.int x4, .int x5, .long x6, .long x7, .long x8, .ref aN_grounds, .ref aN_airs, .ref aN_tolds, .ref aN_fees, .ref aN_lets, .int x14, .ref aN_kinds, .ref aN_cells, .ref aN_selves, .ref aN_cries, .int x19, .ref aN_parts, .int x21, .ref aN_past])), (aN_grounds, .inl (gJ G, 3, .inr (.inl x9))), (aN_airs, .inl (gJ G, 6, .inr (.inl x10))), (aN_tolds, .inl (gJ G, 3, .inr (.inl x11))), (aN_fees, .inl (gI G, 6, .inl x12)), (aN_lets, .inl (gI G, 6, .inl x13)), (aN_kinds, .inl (gI G, 6, .inl x15)), (aN_cells, .inl (gI G, 6, .inl x16)), (aN_selves, .inl (gI G, 6, .inl x17)), (aN_cries, .inl (gI G, 6, .inl x18)), (aN_parts, .inl (gI G, 40, .inl x20)), (aN_past, .inl (gI G, 328, .inl x22)), (aI0, .inr (0, [.int I0_width, .int I0_height, .long I0_everywhere, .long I0_firstColumn, .long I0_lastColumn, .ref aI0_grounds, .ref aI0_airs, .ref aI0_tolds, .ref aI0_fees, .ref aI0_lets, .int I0_makers, .ref aI0_kinds, .ref aI0_cells, .ref aI0_selves, .ref aI0_cries, .int I0_leaves, .ref aI0_parts, .int I0_pasts, .ref aI0_past])), (aI0_grounds, .inl (gJ G, 3, .inr (.inl I0_grounds))), (aI0_airs, .inl (gJ G, 6, .inr (.inl I0_airs))), (aI0_tolds, .inl (gJ G, 3, .inr (.inl I0_tolds))), (aI0_fees, .inl (gI G, 6, .inl I0_fees)), (aI0_lets, .inl (gI G, 6, .inl I0_lets)), (aI0_kinds, .inl (gI G, 6, .inl I0_kinds)), (aI0_cells, .inl (gI G, 6, .inl I0_cells)), (aI0_selves, .inl (gI G, 6, .inl I0_selves)), (aI0_cries, .inl (gI G, 6, .inl I0_cries)), (aI0_parts, .inl (gI G, 40, .inl I0_parts)), (aI0_past, .inl (gI G, 328, .inl I0_past)), (aI1, .inr (0, [.int I1_width, .int I1_height, .long I1_everywhere, .long I1_firstColumn, .long I1_lastColumn, .ref aI1_grounds, .ref aI1_airs, .ref aI1_tolds, .ref aI1_fees, .ref aI1_lets, .int I1_makers, .ref aI1_kinds, .ref aI1_cells, .ref aI1_selves, .ref aI1_cries, .int I1_leaves, .ref aI1_parts, .int I1_pasts, .ref aI1_past])), (aI1_grounds, .inl (gJ G, 3, .inr (.inl I1_grounds))), (aI1_airs, .inl (gJ G, 6, .inr (.inl I1_airs))), (aI1_tolds, .inl (gJ G, 3, .inr (.inl I1_tolds))), (aI1_fees, .inl (gI G, 6, .inl I1_fees)), (aI1_lets, .inl (gI G, 6, .inl I1_lets)), (aI1_kinds, .inl (gI G, 6, .inl I1_kinds)), (aI1_cells, .inl (gI G, 6, .inl I1_cells)), (aI1_selves, .inl (gI G, 6, .inl I1_selves)), (aI1_cries, .inl (gI G, 6, .inl I1_cries)), (aI1_parts, .inl (gI G, 40, .inl I1_parts)), (aI1_past, .inl (gI G, 328, .inl I1_past))]) (stk := []) (rest := []) (As := [.ref aI0]) (q0 := 4) C hE hW (c_Ld_copyFrom l G aN aN_grounds aN_airs aN_tolds aN_fees aN_lets aN_kinds aN_cells aN_selves aN_cries aN_parts aN_past aI0 aI0_grounds aI0_airs aI0_tolds aI0_fees aI0_lets aI0_kinds aI0_cells aI0_selves aI0_cries aI0_parts aI0_past N_width N_height N_everywhere N_firstColumn N_lastColumn N_makers N_leaves N_pasts I0_width I0_height I0_everywhere I0_firstColumn I0_lastColumn I0_makers I0_leaves I0_pasts N_grounds N_airs N_tolds N_fees N_lets N_kinds N_cells N_selves N_cries N_parts N_past I0_grounds I0_airs I0_tolds I0_fees I0_lets I0_kinds I0_cells I0_selves I0_cries I0_parts I0_past hc23) cv_Ld_copyFrom tw779 hl rfl rfl (Nat.le_of_ble_eq_true rfl) rfl rfl rfl ⟨Nat.le_of_ble_eq_true rfl, Nat.le_of_ble_eq_true rfl⟩ ⟨Nat.zero_le _, Nat.zero_le _⟩ [4, 5, 6, 7, 8, 9, 10, 11, 12, 13, 14, 15, 16, 17, 18, 19, 20, 21, 22, 23, 24, 25, 26, 27] [0, 1, 2, 3, 28, 29, 30, 31, 32, 33, 34, 35, 36, 37, 38, 39] [0, 1, 2, 3, 16, 17, 18, 19, 20, 21, 22, 23, 24, 25, 26, 27, 28, 29, 30, 31, 32, 33, 34, 35, 36, 37, 38, 39, 4, 5, 6, 7, 8, 9, 10, 11, 12, 13, 14, 15] rfl rfl rfl (by decide) rfl rfl rfl rfl d_Ai_from_42 (fun H locs hW => ?_)
            refine lv_iconst (v := 1) C.1.1 C.1.2.1 d_Ai_from_45 (by decide) ?_
            obtain rfl := Option.some.inj h
            exact x_iret C hW rfl rfl hQ d_Ai_from_46
          · replace h := it_f c0 h
            rcases Decidable.em (p1 = 1) with c1 | c1
            · replace h := it_t c1 h
              refine x_aald C hE hW 1 rfl (inB_in (by rw [c1]; decide)) (v := .ref aI1) (by rw [c1]; rfl) d_Ai_from_41 ?_
              obtain ⟨⟨x24, x25, x26, x27, x28, x29, x30, x31, x32, x33, x34, x35, x36, x37, x38, x39, x40, x41, x42⟩, hc43, h⟩ := bd_at h
              refine x_callV (ws' := [(aA, .inr (3, [.ref aN, .ref A_draft, .ref aA_images, .ref aA_kept, .ref A_sound, .ref A_reader, .ref aA_refused, .ref aA_heardBy])), (aA_images, .inl (gO G, 2, .inr (.inr (.inr (.inr (imF aI0 aI1)))))), (aA_kept, .inl (gZ G, 2, .inl A_kept)), (aA_refused, .inl (gI G, 3, .inl A_refused)), (aN, .inr (0, [.int x24, .int x25, .long x26, .long x27, .long x28, .ref aN_grounds, .ref aN_airs, .ref aN_tolds, .ref aN_fees, .ref aN_lets, .int x34, .ref aN_kinds, .ref aN_cells, .ref aN_selves, .ref aN_cries, .int x39, .ref aN_parts, .int x41, .ref aN_past])), (aN_grounds, .inl (gJ G, 3, .inr (.inl x29))), (aN_airs, .inl (gJ G, 6, .inr (.inl x30))), (aN_tolds, .inl (gJ G, 3, .inr (.inl x31))), (aN_fees, .inl (gI G, 6, .inl x32)), (aN_lets, .inl (gI G, 6, .inl x33)), (aN_kinds, .inl (gI G, 6, .inl x35)), (aN_cells, .inl (gI G, 6, .inl x36)), (aN_selves, .inl (gI G, 6, .inl x37)), (aN_cries, .inl (gI G, 6, .inl x38)), (aN_parts, .inl (gI G, 40, .inl x40)), (aN_past, .inl (gI G, 328, .inl x42)), (aI0, .inr (0, [.int I0_width, .int I0_height, .long I0_everywhere, .long I0_firstColumn, .long I0_lastColumn, .ref aI0_grounds, .ref aI0_airs, .ref aI0_tolds, .ref aI0_fees, .ref aI0_lets, .int I0_makers, .ref aI0_kinds, .ref aI0_cells, .ref aI0_selves, .ref aI0_cries, .int I0_leaves, .ref aI0_parts, .int I0_pasts, .ref aI0_past])), (aI0_grounds, .inl (gJ G, 3, .inr (.inl I0_grounds))), (aI0_airs, .inl (gJ G, 6, .inr (.inl I0_airs))), (aI0_tolds, .inl (gJ G, 3, .inr (.inl I0_tolds))), (aI0_fees, .inl (gI G, 6, .inl I0_fees)), (aI0_lets, .inl (gI G, 6, .inl I0_lets)), (aI0_kinds, .inl (gI G, 6, .inl I0_kinds)), (aI0_cells, .inl (gI G, 6, .inl I0_cells)), (aI0_selves, .inl (gI G, 6, .inl I0_selves)), (aI0_cries, .inl (gI G, 6, .inl I0_cries)), (aI0_parts, .inl (gI G, 40, .inl I0_parts)), (aI0_past, .inl (gI G, 328, .inl I0_past)), (aI1, .inr (0, [.int I1_width, .int I1_height, .long I1_everywhere, .long I1_firstColumn, .long I1_lastColumn, .ref aI1_grounds, .ref aI1_airs, .ref aI1_tolds, .ref aI1_fees, .ref aI1_lets, .int I1_makers, .ref aI1_kinds, .ref aI1_cells, .ref aI1_selves, .ref aI1_cries, .int I1_leaves, .ref aI1_parts, .int I1_pasts, .ref aI1_past])), (aI1_grounds, .inl (gJ G, 3, .inr (.inl I1_grounds))), (aI1_airs, .inl (gJ G, 6, .inr (.inl I1_airs))), (aI1_tolds, .inl (gJ G, 3, .inr (.inl I1_tolds))), (aI1_fees, .inl (gI G, 6, .inl I1_fees)), (aI1_lets, .inl (gI G, 6, .inl I1_lets)), (aI1_kinds, .inl (gI G, 6, .inl I1_kinds)), (aI1_cells, .inl (gI G, 6, .inl I1_cells)), (aI1_selves, .inl (gI G, 6, .inl I1_selves)), (aI1_cries, .inl (gI G, 6, .inl I1_cries)), (aI1_parts, .inl (gI G, 40, .inl I1_parts)), (aI1_past, .inl (gI G, 328, .inl I1_past))]) (stk := []) (rest := []) (As := [.ref aI1]) (q0 := 4) C hE hW (c_Ld_copyFrom l G aN aN_grounds aN_airs aN_tolds aN_fees aN_lets aN_kinds aN_cells aN_selves aN_cries aN_parts aN_past aI1 aI1_grounds aI1_airs aI1_tolds aI1_fees aI1_lets aI1_kinds aI1_cells aI1_selves aI1_cries aI1_parts aI1_past N_width N_height N_everywhere N_firstColumn N_lastColumn N_makers N_leaves N_pasts I1_width I1_height I1_everywhere I1_firstColumn I1_lastColumn I1_makers I1_leaves I1_pasts N_grounds N_airs N_tolds N_fees N_lets N_kinds N_cells N_selves N_cries N_parts N_past I1_grounds I1_airs I1_tolds I1_fees I1_lets I1_kinds I1_cells I1_selves I1_cries I1_parts I1_past hc43) cv_Ld_copyFrom tw779 hl rfl rfl (Nat.le_of_ble_eq_true rfl) rfl rfl rfl ⟨Nat.le_of_ble_eq_true rfl, Nat.le_of_ble_eq_true rfl⟩ ⟨Nat.zero_le _, Nat.zero_le _⟩ [4, 5, 6, 7, 8, 9, 10, 11, 12, 13, 14, 15, 28, 29, 30, 31, 32, 33, 34, 35, 36, 37, 38, 39] [0, 1, 2, 3, 16, 17, 18, 19, 20, 21, 22, 23, 24, 25, 26, 27] [0, 1, 2, 3, 16, 17, 18, 19, 20, 21, 22, 23, 24, 25, 26, 27, 4, 5, 6, 7, 8, 9, 10, 11, 12, 13, 14, 15, 28, 29, 30, 31, 32, 33, 34, 35, 36, 37, 38, 39] rfl rfl rfl (by decide) rfl rfl rfl rfl d_Ai_from_42 (fun H locs hW => ?_)
              refine lv_iconst (v := 1) C.1.1 C.1.2.1 d_Ai_from_45 (by decide) ?_
              obtain rfl := Option.some.inj h
              exact x_iret C hW rfl rfl hQ d_Ai_from_46
            · replace h := it_f c1 h
              cases h
        · replace h := it_t cc h
          refine lv_aload_n C.1.1 C.1.2.1 d_Ai_from_25 rfl (lv_at hl 0 rfl) ?_
          refine lv_bipush (v := (-3)) C.1.1 C.1.2.1 d_Ai_from_26 (by decide) ?_
          obtain ⟨⟨x44, x45⟩, hc46, h⟩ := bd_at h
          refine x_callV (ws' := [(aA, .inr (3, [.ref aN, .ref A_draft, .ref aA_images, .ref aA_kept, .ref A_sound, .ref A_reader, .ref aA_refused, .ref aA_heardBy])), (aA_images, .inl (gO G, 2, .inr (.inr (.inr (.inr (imF aI0 aI1)))))), (aA_kept, .inl (gZ G, 2, .inl A_kept)), (aA_refused, .inl (gI G, 3, .inl x45)), (aN, .inr (0, [.int N_width, .int N_height, .long N_everywhere, .long N_firstColumn, .long N_lastColumn, .ref aN_grounds, .ref aN_airs, .ref aN_tolds, .ref aN_fees, .ref aN_lets, .int N_makers, .ref aN_kinds, .ref aN_cells, .ref aN_selves, .ref aN_cries, .int N_leaves, .ref aN_parts, .int N_pasts, .ref aN_past])), (aN_grounds, .inl (gJ G, 3, .inr (.inl N_grounds))), (aN_airs, .inl (gJ G, 6, .inr (.inl N_airs))), (aN_tolds, .inl (gJ G, 3, .inr (.inl N_tolds))), (aN_fees, .inl (gI G, 6, .inl N_fees)), (aN_lets, .inl (gI G, 6, .inl N_lets)), (aN_kinds, .inl (gI G, 6, .inl N_kinds)), (aN_cells, .inl (gI G, 6, .inl N_cells)), (aN_selves, .inl (gI G, 6, .inl N_selves)), (aN_cries, .inl (gI G, 6, .inl N_cries)), (aN_parts, .inl (gI G, 40, .inl N_parts)), (aN_past, .inl (gI G, 328, .inl N_past)), (aI0, .inr (0, [.int I0_width, .int I0_height, .long I0_everywhere, .long I0_firstColumn, .long I0_lastColumn, .ref aI0_grounds, .ref aI0_airs, .ref aI0_tolds, .ref aI0_fees, .ref aI0_lets, .int I0_makers, .ref aI0_kinds, .ref aI0_cells, .ref aI0_selves, .ref aI0_cries, .int I0_leaves, .ref aI0_parts, .int I0_pasts, .ref aI0_past])), (aI0_grounds, .inl (gJ G, 3, .inr (.inl I0_grounds))), (aI0_airs, .inl (gJ G, 6, .inr (.inl I0_airs))), (aI0_tolds, .inl (gJ G, 3, .inr (.inl I0_tolds))), (aI0_fees, .inl (gI G, 6, .inl I0_fees)), (aI0_lets, .inl (gI G, 6, .inl I0_lets)), (aI0_kinds, .inl (gI G, 6, .inl I0_kinds)), (aI0_cells, .inl (gI G, 6, .inl I0_cells)), (aI0_selves, .inl (gI G, 6, .inl I0_selves)), (aI0_cries, .inl (gI G, 6, .inl I0_cries)), (aI0_parts, .inl (gI G, 40, .inl I0_parts)), (aI0_past, .inl (gI G, 328, .inl I0_past)), (aI1, .inr (0, [.int I1_width, .int I1_height, .long I1_everywhere, .long I1_firstColumn, .long I1_lastColumn, .ref aI1_grounds, .ref aI1_airs, .ref aI1_tolds, .ref aI1_fees, .ref aI1_lets, .int I1_makers, .ref aI1_kinds, .ref aI1_cells, .ref aI1_selves, .ref aI1_cries, .int I1_leaves, .ref aI1_parts, .int I1_pasts, .ref aI1_past])), (aI1_grounds, .inl (gJ G, 3, .inr (.inl I1_grounds))), (aI1_airs, .inl (gJ G, 6, .inr (.inl I1_airs))), (aI1_tolds, .inl (gJ G, 3, .inr (.inl I1_tolds))), (aI1_fees, .inl (gI G, 6, .inl I1_fees)), (aI1_lets, .inl (gI G, 6, .inl I1_lets)), (aI1_kinds, .inl (gI G, 6, .inl I1_kinds)), (aI1_cells, .inl (gI G, 6, .inl I1_cells)), (aI1_selves, .inl (gI G, 6, .inl I1_selves)), (aI1_cries, .inl (gI G, 6, .inl I1_cries)), (aI1_parts, .inl (gI G, 40, .inl I1_parts)), (aI1_past, .inl (gI G, 328, .inl I1_past))]) (stk := [.int x44]) (rest := []) (As := [.int (-3)]) (q0 := 0) C hE hW (c_Ai_refuse l G aA aA_images aA_kept aA_refused aA_heardBy aN A_draft A_sound A_reader A_refused (-3) hc46) cv_Ai_refuse tw308 hl rfl rfl (Nat.le_of_ble_eq_true rfl) rfl rfl rfl ⟨Nat.le_of_ble_eq_true rfl, Nat.le_of_ble_eq_true rfl⟩ ⟨Nat.zero_le _, Nat.zero_le _⟩ [0, 3] [1, 2, 4, 5, 6, 7, 8, 9, 10, 11, 12, 13, 14, 15, 16, 17, 18, 19, 20, 21, 22, 23, 24, 25, 26, 27, 28, 29, 30, 31, 32, 33, 34, 35, 36, 37, 38, 39] [38, 0, 1, 39, 2, 3, 4, 5, 6, 7, 8, 9, 10, 11, 12, 13, 14, 15, 16, 17, 18, 19, 20, 21, 22, 23, 24, 25, 26, 27, 28, 29, 30, 31, 32, 33, 34, 35, 36, 37] rfl rfl rfl (by decide) rfl rfl rfl rfl d_Ai_from_28 (fun H locs hW => ?_)
          obtain rfl := Option.some.inj h
          exact x_iret C hW rfl rfl hQ d_Ai_from_31
      · replace h := it_f cc h
        exact hJ9 _ h _ _ _ hW (lv_sub hl [0] rfl)
set_option maxHeartbeats 4000000 in
set_option maxRecDepth 100000 in
theorem c_Ai_status (l : Launch) (G : Gl) (aA : Nat) (aA_images : Nat) (aA_kept : Nat) (aA_refused : Nat) (aA_heardBy : Nat) (A_now : Nat) (A_draft : Nat) (A_sound : Nat) (A_reader : Nat) (A_refused : Nat → Int32) (p1 : Int32) {res : Int32 × (Nat → Int32)} (h : f_Ai_status A_refused p1 = some res) : Ct l y_Ai_status b_Ai_status 2 (some .int) 1 23 G [.ref aA, .int p1] [(aA, .inr (3, [.ref A_now, .ref A_draft, .ref aA_images, .ref aA_kept, .ref A_sound, .ref A_reader, .ref aA_refused, .ref aA_heardBy])), (aA_refused, .inl (gI G, 3, .inl A_refused))] (some (.int res.1)) [(aA, .inr (3, [.ref A_now, .ref A_draft, .ref aA_images, .ref aA_kept, .ref A_sound, .ref A_reader, .ref aA_refused, .ref aA_heardBy])), (aA_refused, .inl (gI G, 3, .inl (res.2)))] := by
  refine Ct.mk (by decide) (Nat.le_of_ble_eq_true rfl) ?_
  intro p e s m args below meth c ls A Q C hE hW hl hQ
  have C : Cx p s args m c meth "LentAir" y_Ai_status b_Ai_status 2 (some .int) := C
  have hl : lv_has ls 2 [(0, .ref aA), (1, .int p1)] := hl
  unfold f_Ai_status at h
  refine lv_iload_n C.1.1 C.1.2.1 d_Ai_status_0 rfl (lv_at hl 1 rfl) ?_
  refine jn_at (P := fun (_ : Unit) => ∀ (H : Heap) (locs : List Loc) (ls : Array Slot), Wd G A s.heap H locs [(aA, .inr (3, [.ref A_now, .ref A_draft, .ref aA_images, .ref aA_kept, .ref A_sound, .ref A_reader, .ref aA_refused, .ref aA_heardBy])), (aA_refused, .inl (gI G, 3, .inl A_refused))] → lv_has ls 2 [(0, .ref aA)] → W p l e (RM 1 23) s m args below meth c H locs 0 0 Q (F0 m 9 ls [])) h ?_ ?_
  · skip
    intro _ h
    intro H locs ls hW hl
    refine lv_aload_n C.1.1 C.1.2.1 d_Ai_status_9 rfl (lv_at hl 0 rfl) ?_
    refine lv_bipush (v := (-2)) C.1.1 C.1.2.1 d_Ai_status_10 (by decide) ?_
    refine lv_iconst (v := (-1)) C.1.1 C.1.2.1 d_Ai_status_12 (by decide) ?_
    obtain ⟨⟨x1, x2⟩, hc3, h⟩ := bd_at h
    refine x_callV (ws' := [(aA, .inr (3, [.ref A_now, .ref A_draft, .ref aA_images, .ref aA_kept, .ref A_sound, .ref A_reader, .ref aA_refused, .ref aA_heardBy])), (aA_refused, .inl (gI G, 3, .inl x2))]) (stk := [.int x1]) (rest := []) (As := [.int (-2), .int (-1)]) (q0 := 0) C hE hW (c_Ai_refuseAs l G aA aA_images aA_kept aA_refused aA_heardBy A_now A_draft A_sound A_reader A_refused (-2) (-1) hc3) cv_Ai_refuseAs tw312 hl rfl rfl (Nat.le_of_ble_eq_true rfl) rfl rfl rfl ⟨Nat.le_of_ble_eq_true rfl, Nat.le_of_ble_eq_true rfl⟩ ⟨Nat.zero_le _, Nat.zero_le _⟩ [0, 1] [] [0, 1] rfl rfl rfl (by decide) rfl rfl rfl rfl d_Ai_status_13 (fun H locs hW => ?_)
    obtain rfl := Option.some.inj h
    exact x_iret C hW rfl rfl hQ d_Ai_status_16
  · intro J9 hJ9 h
    refine lv_if_lt (tgt := 9) C.1.1 C.1.2.1 d_Ai_status_1 (by decide) (fun cc => ?_) (fun cc => ?_)
    · replace h := it_t cc h
      exact hJ9 _ h _ _ _ hW (lv_sub hl [0] rfl)
    · replace h := it_f cc h
      refine lv_iload_n C.1.1 C.1.2.1 d_Ai_status_4 rfl (lv_at hl 1 rfl) ?_
      refine lv_iconst (v := 3) C.1.1 C.1.2.1 d_Ai_status_5 (by decide) ?_
      refine lv_icmp_lt (tgt := 17) C.1.1 C.1.2.1 d_Ai_status_6 (by decide) (fun cc => ?_) (fun cc => ?_)
      · replace h := it_t cc h
        refine lv_aload_n C.1.1 C.1.2.1 d_Ai_status_17 rfl (lv_at hl 0 rfl) ?_
        refine x_get C hE hW fl_Ai_43 0 rfl rfl d_Ai_status_18 ?_
        refine lv_iload_n C.1.1 C.1.2.1 d_Ai_status_21 rfl (lv_at hl 1 rfl) ?_
        obtain ⟨hg, h⟩ := gd_at h
        refine x_iald C hE hW 1 rfl (inB_in hg) d_Ai_status_22 ?_
        obtain rfl := Option.some.inj h
        exact x_iret C hW rfl rfl hQ d_Ai_status_23
      · replace h := it_f cc h
        exact hJ9 _ h _ _ _ hW (lv_sub hl [0] rfl)
set_option maxHeartbeats 4000000 in
set_option maxRecDepth 100000 in
theorem c_Ai_countOf (l : Launch) (G : Gl) (aA : Nat) (aA_images : Nat) (aA_kept : Nat) (aA_refused : Nat) (aA_heardBy : Nat) (aN : Nat) (aN_grounds : Nat) (aN_airs : Nat) (aN_tolds : Nat) (aN_fees : Nat) (aN_lets : Nat) (aN_kinds : Nat) (aN_cells : Nat) (aN_selves : Nat) (aN_cries : Nat) (aN_parts : Nat) (aN_past : Nat) (aR : Nat) (aR_text : Nat) (aR_numbers : Nat) (A_draft : Nat) (A_sound : Nat) (N_width : Int32) (N_height : Int32) (N_everywhere : Int64) (N_firstColumn : Int64) (N_lastColumn : Int64) (N_makers : Int32) (N_leaves : Int32) (N_pasts : Int32) (R_length : Int32) (R_land : Nat) (R_place : Int32) (R_end : Int32) (R_token : Int32) (p1 : Int32) {res : Int32} (h : f_Ai_countOf N_width N_height N_makers N_leaves N_pasts R_length p1 = some res) : Ct l y_Ai_countOf b_Ai_countOf 2 (some .int) 0 0 G [.ref aA, .int p1] [(aA, .inr (3, [.ref aN, .ref A_draft, .ref aA_images, .ref aA_kept, .ref A_sound, .ref aR, .ref aA_refused, .ref aA_heardBy])), (aN, .inr (0, [.int N_width, .int N_height, .long N_everywhere, .long N_firstColumn, .long N_lastColumn, .ref aN_grounds, .ref aN_airs, .ref aN_tolds, .ref aN_fees, .ref aN_lets, .int N_makers, .ref aN_kinds, .ref aN_cells, .ref aN_selves, .ref aN_cries, .int N_leaves, .ref aN_parts, .int N_pasts, .ref aN_past])), (aR, .inr (1, [.ref aR_text, .int R_length, .ref R_land, .int R_place, .int R_end, .int R_token, .ref aR_numbers]))] (some (.int res)) [(aA, .inr (3, [.ref aN, .ref A_draft, .ref aA_images, .ref aA_kept, .ref A_sound, .ref aR, .ref aA_refused, .ref aA_heardBy])), (aN, .inr (0, [.int N_width, .int N_height, .long N_everywhere, .long N_firstColumn, .long N_lastColumn, .ref aN_grounds, .ref aN_airs, .ref aN_tolds, .ref aN_fees, .ref aN_lets, .int N_makers, .ref aN_kinds, .ref aN_cells, .ref aN_selves, .ref aN_cries, .int N_leaves, .ref aN_parts, .int N_pasts, .ref aN_past])), (aR, .inr (1, [.ref aR_text, .int R_length, .ref R_land, .int R_place, .int R_end, .int R_token, .ref aR_numbers]))] := by
  refine Ct.mk (by decide) (Nat.le_of_ble_eq_true rfl) ?_
  intro p e s m args below meth c ls A Q C hE hW hl hQ
  have C : Cx p s args m c meth "LentAir" y_Ai_countOf b_Ai_countOf 2 (some .int) := C
  have hl : lv_has ls 2 [(0, .ref aA), (1, .int p1)] := hl
  unfold f_Ai_countOf at h
  refine lv_iload_n C.1.1 C.1.2.1 d_Ai_countOf_0 rfl (lv_at hl 1 rfl) ?_
  rcases Decidable.em (p1 = 0) with c0 | c0
  · replace h := it_t c0 h
    refine lv_tableIn (tgt := 36) C.1.1 C.1.2.1 d_Ai_countOf_1 (by rw [c0]; decide) (by rw [c0]; decide) (by rw [c0]; rfl) (by decide) ?_
    refine lv_aload_n C.1.1 C.1.2.1 d_Ai_countOf_36 rfl (lv_at hl 0 rfl) ?_
    refine x_get C hE hW fl_Ai_12 0 rfl rfl d_Ai_countOf_37 ?_
    refine x_get C hE hW fl_Ai_230 1 rfl rfl d_Ai_countOf_40 ?_
    obtain rfl := Option.some.inj h
    exact x_iret C hW rfl rfl hQ d_Ai_countOf_43
  · replace h := it_f c0 h
    rcases Decidable.em (p1 = 1) with c1 | c1
    · replace h := it_t c1 h
      refine lv_tableIn (tgt := 44) C.1.1 C.1.2.1 d_Ai_countOf_1 (by rw [c1]; decide) (by rw [c1]; decide) (by rw [c1]; rfl) (by decide) ?_
      refine lv_aload_n C.1.1 C.1.2.1 d_Ai_countOf_44 rfl (lv_at hl 0 rfl) ?_
      refine x_get C hE hW fl_Ai_12 0 rfl rfl d_Ai_countOf_45 ?_
      refine x_get C hE hW fl_Ai_233 1 rfl rfl d_Ai_countOf_48 ?_
      obtain rfl := Option.some.inj h
      exact x_iret C hW rfl rfl hQ d_Ai_countOf_51
    · replace h := it_f c1 h
      rcases Decidable.em (p1 = 2) with c2 | c2
      · replace h := it_t c2 h
        refine lv_tableIn (tgt := 52) C.1.1 C.1.2.1 d_Ai_countOf_1 (by rw [c2]; decide) (by rw [c2]; decide) (by rw [c2]; rfl) (by decide) ?_
        refine lv_aload_n C.1.1 C.1.2.1 d_Ai_countOf_52 rfl (lv_at hl 0 rfl) ?_
        refine x_get C hE hW fl_Ai_12 0 rfl rfl d_Ai_countOf_53 ?_
        refine x_get C hE hW fl_Ai_80 1 rfl rfl d_Ai_countOf_56 ?_
        obtain rfl := Option.some.inj h
        exact x_iret C hW rfl rfl hQ d_Ai_countOf_59
      · replace h := it_f c2 h
        rcases Decidable.em (p1 = 3) with c3 | c3
        · replace h := it_t c3 h
          refine lv_tableIn (tgt := 60) C.1.1 C.1.2.1 d_Ai_countOf_1 (by rw [c3]; decide) (by rw [c3]; decide) (by rw [c3]; rfl) (by decide) ?_
          refine lv_aload_n C.1.1 C.1.2.1 d_Ai_countOf_60 rfl (lv_at hl 0 rfl) ?_
          refine x_get C hE hW fl_Ai_12 0 rfl rfl d_Ai_countOf_61 ?_
          refine x_get C hE hW fl_Ai_97 1 rfl rfl d_Ai_countOf_64 ?_
          obtain rfl := Option.some.inj h
          exact x_iret C hW rfl rfl hQ d_Ai_countOf_67
        · replace h := it_f c3 h
          rcases Decidable.em (p1 = 4) with c4 | c4
          · replace h := it_t c4 h
            refine lv_tableIn (tgt := 68) C.1.1 C.1.2.1 d_Ai_countOf_1 (by rw [c4]; decide) (by rw [c4]; decide) (by rw [c4]; rfl) (by decide) ?_
            refine lv_aload_n C.1.1 C.1.2.1 d_Ai_countOf_68 rfl (lv_at hl 0 rfl) ?_
            refine x_get C hE hW fl_Ai_12 0 rfl rfl d_Ai_countOf_69 ?_
            refine x_get C hE hW fl_Ai_114 1 rfl rfl d_Ai_countOf_72 ?_
            obtain rfl := Option.some.inj h
            exact x_iret C hW rfl rfl hQ d_Ai_countOf_75
          · replace h := it_f c4 h
            have htb : p1.toInt < 0 ∨ 4 < p1.toInt := by
              refine tsw_out (fun z h1 h2 e => ?_)
              have hz : z = 0 ∨ z = 1 ∨ z = 2 ∨ z = 3 ∨ z = 4 := by omega
              rcases hz with rfl | rfl | rfl | rfl | rfl
              · exact c0 (tsw e)
              · exact c1 (tsw e)
              · exact c2 (tsw e)
              · exact c3 (tsw e)
              · exact c4 (tsw e)
            refine lv_tableOut (tgt := 76) C.1.1 C.1.2.1 d_Ai_countOf_1 htb (by decide) ?_
            refine lv_aload_n C.1.1 C.1.2.1 d_Ai_countOf_76 rfl (lv_at hl 0 rfl) ?_
            refine x_get C hE hW fl_Ai_39 0 rfl rfl d_Ai_countOf_77 ?_
            refine x_get C hE hW fl_Ai_126 2 rfl rfl d_Ai_countOf_80 ?_
            obtain rfl := Option.some.inj h
            exact x_iret C hW rfl rfl hQ d_Ai_countOf_83
set_option maxHeartbeats 4000000 in
set_option maxRecDepth 100000 in
theorem c_Ai_count (l : Launch) (G : Gl) (aA : Nat) (aA_images : Nat) (aA_kept : Nat) (aA_refused : Nat) (aA_heardBy : Nat) (aN : Nat) (aN_grounds : Nat) (aN_airs : Nat) (aN_tolds : Nat) (aN_fees : Nat) (aN_lets : Nat) (aN_kinds : Nat) (aN_cells : Nat) (aN_selves : Nat) (aN_cries : Nat) (aN_parts : Nat) (aN_past : Nat) (aR : Nat) (aR_text : Nat) (aR_numbers : Nat) (A_draft : Nat) (A_sound : Nat) (N_width : Int32) (N_height : Int32) (N_everywhere : Int64) (N_firstColumn : Int64) (N_lastColumn : Int64) (N_makers : Int32) (N_leaves : Int32) (N_pasts : Int32) (R_length : Int32) (R_land : Nat) (R_place : Int32) (R_end : Int32) (R_token : Int32) (A_refused : Nat → Int32) (p1 : Int32) {res : Int32 × (Nat → Int32)} (h : f_Ai_count N_width N_height N_makers N_leaves N_pasts R_length A_refused p1 = some res) : Ct l y_Ai_count b_Ai_count 2 (some .int) 2 44 G [.ref aA, .int p1] [(aA, .inr (3, [.ref aN, .ref A_draft, .ref aA_images, .ref aA_kept, .ref A_sound, .ref aR, .ref aA_refused, .ref aA_heardBy])), (aA_refused, .inl (gI G, 3, .inl A_refused)), (aN, .inr (0, [.int N_width, .int N_height, .long N_everywhere, .long N_firstColumn, .long N_lastColumn, .ref aN_grounds, .ref aN_airs, .ref aN_tolds, .ref aN_fees, .ref aN_lets, .int N_makers, .ref aN_kinds, .ref aN_cells, .ref aN_selves, .ref aN_cries, .int N_leaves, .ref aN_parts, .int N_pasts, .ref aN_past])), (aR, .inr (1, [.ref aR_text, .int R_length, .ref R_land, .int R_place, .int R_end, .int R_token, .ref aR_numbers]))] (some (.int res.1)) [(aA, .inr (3, [.ref aN, .ref A_draft, .ref aA_images, .ref aA_kept, .ref A_sound, .ref aR, .ref aA_refused, .ref aA_heardBy])), (aA_refused, .inl (gI G, 3, .inl (res.2))), (aN, .inr (0, [.int N_width, .int N_height, .long N_everywhere, .long N_firstColumn, .long N_lastColumn, .ref aN_grounds, .ref aN_airs, .ref aN_tolds, .ref aN_fees, .ref aN_lets, .int N_makers, .ref aN_kinds, .ref aN_cells, .ref aN_selves, .ref aN_cries, .int N_leaves, .ref aN_parts, .int N_pasts, .ref aN_past])), (aR, .inr (1, [.ref aR_text, .int R_length, .ref R_land, .int R_place, .int R_end, .int R_token, .ref aR_numbers]))] := by
  refine Ct.mk (by decide) (Nat.le_of_ble_eq_true rfl) ?_
  intro p e s m args below meth c ls A Q C hE hW hl hQ
  have C : Cx p s args m c meth "LentAir" y_Ai_count b_Ai_count 2 (some .int) := C
  have hl : lv_has ls 2 [(0, .ref aA), (1, .int p1)] := hl
  unfold f_Ai_count at h
  refine lv_iload_n C.1.1 C.1.2.1 d_Ai_count_0 rfl (lv_at hl 1 rfl) ?_
  refine jn_at (P := fun (_ : Unit) => ∀ (H : Heap) (locs : List Loc) (ls : Array Slot), Wd G A s.heap H locs [(aA, .inr (3, [.ref aN, .ref A_draft, .ref aA_images, .ref aA_kept, .ref A_sound, .ref aR, .ref aA_refused, .ref aA_heardBy])), (aA_refused, .inl (gI G, 3, .inl A_refused)), (aN, .inr (0, [.int N_width, .int N_height, .long N_everywhere, .long N_firstColumn, .long N_lastColumn, .ref aN_grounds, .ref aN_airs, .ref aN_tolds, .ref aN_fees, .ref aN_lets, .int N_makers, .ref aN_kinds, .ref aN_cells, .ref aN_selves, .ref aN_cries, .int N_leaves, .ref aN_parts, .int N_pasts, .ref aN_past])), (aR, .inr (1, [.ref aR_text, .int R_length, .ref R_land, .int R_place, .int R_end, .int R_token, .ref aR_numbers]))] → lv_has ls 2 [(0, .ref aA)] → W p l e (RM 2 44) s m args below meth c H locs 0 0 Q (F0 m 10 ls [])) h ?_ ?_
  · skip
    intro _ h
    intro H locs ls hW hl
    refine lv_aload_n C.1.1 C.1.2.1 d_Ai_count_10 rfl (lv_at hl 0 rfl) ?_
    refine lv_bipush (v := (-2)) C.1.1 C.1.2.1 d_Ai_count_11 (by decide) ?_
    obtain ⟨⟨x1, x2⟩, hc3, h⟩ := bd_at h
    refine x_callV (ws' := [(aA, .inr (3, [.ref aN, .ref A_draft, .ref aA_images, .ref aA_kept, .ref A_sound, .ref aR, .ref aA_refused, .ref aA_heardBy])), (aA_refused, .inl (gI G, 3, .inl x2)), (aN, .inr (0, [.int N_width, .int N_height, .long N_everywhere, .long N_firstColumn, .long N_lastColumn, .ref aN_grounds, .ref aN_airs, .ref aN_tolds, .ref aN_fees, .ref aN_lets, .int N_makers, .ref aN_kinds, .ref aN_cells, .ref aN_selves, .ref aN_cries, .int N_leaves, .ref aN_parts, .int N_pasts, .ref aN_past])), (aR, .inr (1, [.ref aR_text, .int R_length, .ref R_land, .int R_place, .int R_end, .int R_token, .ref aR_numbers]))]) (stk := [.int x1]) (rest := []) (As := [.int (-2)]) (q0 := 0) C hE hW (c_Ai_refuse l G aA aA_images aA_kept aA_refused aA_heardBy aN A_draft A_sound aR A_refused (-2) hc3) cv_Ai_refuse tw308 hl rfl rfl (Nat.le_of_ble_eq_true rfl) rfl rfl rfl ⟨Nat.le_of_ble_eq_true rfl, Nat.le_of_ble_eq_true rfl⟩ ⟨Nat.zero_le _, Nat.zero_le _⟩ [0, 1] [2, 3] [2, 3, 0, 1] rfl rfl rfl (by decide) rfl rfl rfl rfl d_Ai_count_13 (fun H locs hW => ?_)
    obtain rfl := Option.some.inj h
    exact x_iret C hW rfl rfl hQ d_Ai_count_16
  · intro J10 hJ10 h
    refine lv_if_lt (tgt := 10) C.1.1 C.1.2.1 d_Ai_count_1 (by decide) (fun cc => ?_) (fun cc => ?_)
    · replace h := it_t cc h
      exact hJ10 _ h _ _ _ hW (lv_sub hl [0] rfl)
    · replace h := it_f cc h
      refine lv_iload_n C.1.1 C.1.2.1 d_Ai_count_4 rfl (lv_at hl 1 rfl) ?_
      refine lv_bipush (v := 6) C.1.1 C.1.2.1 d_Ai_count_5 (by decide) ?_
      refine lv_icmp_lt (tgt := 17) C.1.1 C.1.2.1 d_Ai_count_7 (by decide) (fun cc => ?_) (fun cc => ?_)
      · replace h := it_t cc h
        refine lv_aload_n C.1.1 C.1.2.1 d_Ai_count_17 rfl (lv_at hl 0 rfl) ?_
        refine lv_iload_n C.1.1 C.1.2.1 d_Ai_count_18 rfl (lv_at hl 1 rfl) ?_
        obtain ⟨x4, hc5, h⟩ := bd_at h
        refine x_callV (ws' := [(aA, .inr (3, [.ref aN, .ref A_draft, .ref aA_images, .ref aA_kept, .ref A_sound, .ref aR, .ref aA_refused, .ref aA_heardBy])), (aA_refused, .inl (gI G, 3, .inl A_refused)), (aN, .inr (0, [.int N_width, .int N_height, .long N_everywhere, .long N_firstColumn, .long N_lastColumn, .ref aN_grounds, .ref aN_airs, .ref aN_tolds, .ref aN_fees, .ref aN_lets, .int N_makers, .ref aN_kinds, .ref aN_cells, .ref aN_selves, .ref aN_cries, .int N_leaves, .ref aN_parts, .int N_pasts, .ref aN_past])), (aR, .inr (1, [.ref aR_text, .int R_length, .ref R_land, .int R_place, .int R_end, .int R_token, .ref aR_numbers]))]) (stk := [.int x4]) (rest := []) (As := [.int p1]) (q0 := 0) C hE hW (c_Ai_countOf l G aA aA_images aA_kept aA_refused aA_heardBy aN aN_grounds aN_airs aN_tolds aN_fees aN_lets aN_kinds aN_cells aN_selves aN_cries aN_parts aN_past aR aR_text aR_numbers A_draft A_sound N_width N_height N_everywhere N_firstColumn N_lastColumn N_makers N_leaves N_pasts R_length R_land R_place R_end R_token p1 hc5) cv_Ai_countOf tw795 hl rfl rfl (Nat.le_of_ble_eq_true rfl) rfl rfl rfl ⟨Nat.le_of_ble_eq_true rfl, Nat.le_of_ble_eq_true rfl⟩ ⟨Nat.zero_le _, Nat.zero_le _⟩ [0, 2, 3] [1] [1, 0, 2, 3] rfl rfl rfl (by decide) rfl rfl rfl rfl d_Ai_count_19 (fun H locs hW => ?_)
        obtain rfl := Option.some.inj h
        exact x_iret C hW rfl rfl hQ d_Ai_count_22
      · replace h := it_f cc h
        exact hJ10 _ h _ _ _ hW (lv_sub hl [0] rfl)
set_option maxHeartbeats 4000000 in
set_option maxRecDepth 100000 in
theorem c_Ai_digest (l : Launch) (G : Gl) (aA : Nat) (aA_images : Nat) (aA_kept : Nat) (aA_refused : Nat) (aA_heardBy : Nat) (aN : Nat) (aN_grounds : Nat) (aN_airs : Nat) (aN_tolds : Nat) (aN_fees : Nat) (aN_lets : Nat) (aN_kinds : Nat) (aN_cells : Nat) (aN_selves : Nat) (aN_cries : Nat) (aN_parts : Nat) (aN_past : Nat) (aR : Nat) (aR_text : Nat) (aR_numbers : Nat) (A_draft : Nat) (A_sound : Nat) (N_width : Int32) (N_height : Int32) (N_everywhere : Int64) (N_firstColumn : Int64) (N_lastColumn : Int64) (N_makers : Int32) (N_leaves : Int32) (N_pasts : Int32) (R_length : Int32) (R_land : Nat) (R_place : Int32) (R_end : Int32) (R_token : Int32) (N_grounds : Nat → Int64) (N_airs : Nat → Int64) (N_tolds : Nat → Int64) (N_fees : Nat → Int32) (N_lets : Nat → Int32) (N_kinds : Nat → Int32) (N_cells : Nat → Int32) (N_selves : Nat → Int32) (N_cries : Nat → Int32) (N_parts : Nat → Int32) {res : Int64} (h : f_Ai_digest N_width N_height N_makers N_leaves N_pasts R_length N_grounds N_airs N_tolds N_fees N_lets N_kinds N_cells N_selves N_cries N_parts = some res) : Ct l y_Ai_digest b_Ai_digest 5 (some .long) 2 44 G [.ref aA] [(aA, .inr (3, [.ref aN, .ref A_draft, .ref aA_images, .ref aA_kept, .ref A_sound, .ref aR, .ref aA_refused, .ref aA_heardBy])), (aN, .inr (0, [.int N_width, .int N_height, .long N_everywhere, .long N_firstColumn, .long N_lastColumn, .ref aN_grounds, .ref aN_airs, .ref aN_tolds, .ref aN_fees, .ref aN_lets, .int N_makers, .ref aN_kinds, .ref aN_cells, .ref aN_selves, .ref aN_cries, .int N_leaves, .ref aN_parts, .int N_pasts, .ref aN_past])), (aN_grounds, .inl (gJ G, 3, .inr (.inl N_grounds))), (aN_airs, .inl (gJ G, 6, .inr (.inl N_airs))), (aN_tolds, .inl (gJ G, 3, .inr (.inl N_tolds))), (aN_fees, .inl (gI G, 6, .inl N_fees)), (aN_lets, .inl (gI G, 6, .inl N_lets)), (aN_kinds, .inl (gI G, 6, .inl N_kinds)), (aN_cells, .inl (gI G, 6, .inl N_cells)), (aN_selves, .inl (gI G, 6, .inl N_selves)), (aN_cries, .inl (gI G, 6, .inl N_cries)), (aN_parts, .inl (gI G, 40, .inl N_parts)), (aR, .inr (1, [.ref aR_text, .int R_length, .ref R_land, .int R_place, .int R_end, .int R_token, .ref aR_numbers]))] (some (.long res)) [(aA, .inr (3, [.ref aN, .ref A_draft, .ref aA_images, .ref aA_kept, .ref A_sound, .ref aR, .ref aA_refused, .ref aA_heardBy])), (aN, .inr (0, [.int N_width, .int N_height, .long N_everywhere, .long N_firstColumn, .long N_lastColumn, .ref aN_grounds, .ref aN_airs, .ref aN_tolds, .ref aN_fees, .ref aN_lets, .int N_makers, .ref aN_kinds, .ref aN_cells, .ref aN_selves, .ref aN_cries, .int N_leaves, .ref aN_parts, .int N_pasts, .ref aN_past])), (aN_grounds, .inl (gJ G, 3, .inr (.inl N_grounds))), (aN_airs, .inl (gJ G, 6, .inr (.inl N_airs))), (aN_tolds, .inl (gJ G, 3, .inr (.inl N_tolds))), (aN_fees, .inl (gI G, 6, .inl N_fees)), (aN_lets, .inl (gI G, 6, .inl N_lets)), (aN_kinds, .inl (gI G, 6, .inl N_kinds)), (aN_cells, .inl (gI G, 6, .inl N_cells)), (aN_selves, .inl (gI G, 6, .inl N_selves)), (aN_cries, .inl (gI G, 6, .inl N_cries)), (aN_parts, .inl (gI G, 40, .inl N_parts)), (aR, .inr (1, [.ref aR_text, .int R_length, .ref R_land, .int R_place, .int R_end, .int R_token, .ref aR_numbers]))] := by
  refine Ct.mk (by decide) (Nat.le_of_ble_eq_true rfl) ?_
  intro p e s m args below meth c ls A Q C hE hW hl hQ
  have C : Cx p s args m c meth "LentAir" y_Ai_digest b_Ai_digest 5 (some .long) := C
  have hl : lv_has ls 5 [(0, .ref aA)] := hl
  unfold f_Ai_digest at h
  refine lv_ldc2 (own := "LentAir") (v := 829) C.1.1 C.1.2.1 C.1.2.2.2.1 (C.w tw803) d_Ai_digest_0 ?_
  refine lv_lstore_n (lv' := [(1, .long 829), (0, .ref aA)]) C.1.1 C.1.2.1 d_Ai_digest_3 rfl hl (by decide) rfl (fun ls hl => ?_)
  refine lv_iconst (v := 0) C.1.1 C.1.2.1 d_Ai_digest_4 (by decide) ?_
  refine lv_istore_n (lv' := [(3, .int 0), (1, .long 829), (0, .ref aA)]) C.1.1 C.1.2.1 d_Ai_digest_5 rfl hl (by decide) rfl (fun ls hl => ?_)
  refine jn_at (P := fun (x1 : Int64) => ∀ (H : Heap) (locs : List Loc) (ls : Array Slot), Wd G A s.heap H locs [(aA, .inr (3, [.ref aN, .ref A_draft, .ref aA_images, .ref aA_kept, .ref A_sound, .ref aR, .ref aA_refused, .ref aA_heardBy])), (aN, .inr (0, [.int N_width, .int N_height, .long N_everywhere, .long N_firstColumn, .long N_lastColumn, .ref aN_grounds, .ref aN_airs, .ref aN_tolds, .ref aN_fees, .ref aN_lets, .int N_makers, .ref aN_kinds, .ref aN_cells, .ref aN_selves, .ref aN_cries, .int N_leaves, .ref aN_parts, .int N_pasts, .ref aN_past])), (aN_grounds, .inl (gJ G, 3, .inr (.inl N_grounds))), (aN_airs, .inl (gJ G, 6, .inr (.inl N_airs))), (aN_tolds, .inl (gJ G, 3, .inr (.inl N_tolds))), (aN_fees, .inl (gI G, 6, .inl N_fees)), (aN_lets, .inl (gI G, 6, .inl N_lets)), (aN_kinds, .inl (gI G, 6, .inl N_kinds)), (aN_cells, .inl (gI G, 6, .inl N_cells)), (aN_selves, .inl (gI G, 6, .inl N_selves)), (aN_cries, .inl (gI G, 6, .inl N_cries)), (aN_parts, .inl (gI G, 40, .inl N_parts)), (aR, .inr (1, [.ref aR_text, .int R_length, .ref R_land, .int R_place, .int R_end, .int R_token, .ref aR_numbers]))] → lv_has ls 5 [(0, .ref aA), (1, .long x1)] → W p l e (RM 2 44) s m args below meth c H locs 0 0 Q (F0 m 31 ls [])) h ?_ ?_
  · skip
    intro x1 h
    intro H locs ls hW hl
    refine lv_iconst (v := 0) C.1.1 C.1.2.1 d_Ai_digest_31 (by decide) ?_
    refine lv_istore_n (lv' := [(3, .int 0), (0, .ref aA), (1, .long x1)]) C.1.1 C.1.2.1 d_Ai_digest_32 rfl hl (by decide) rfl (fun ls hl => ?_)
    refine jn_at (P := fun (x2 : Int64) => ∀ (H : Heap) (locs : List Loc) (ls : Array Slot), Wd G A s.heap H locs [(aA, .inr (3, [.ref aN, .ref A_draft, .ref aA_images, .ref aA_kept, .ref A_sound, .ref aR, .ref aA_refused, .ref aA_heardBy])), (aN, .inr (0, [.int N_width, .int N_height, .long N_everywhere, .long N_firstColumn, .long N_lastColumn, .ref aN_grounds, .ref aN_airs, .ref aN_tolds, .ref aN_fees, .ref aN_lets, .int N_makers, .ref aN_kinds, .ref aN_cells, .ref aN_selves, .ref aN_cries, .int N_leaves, .ref aN_parts, .int N_pasts, .ref aN_past])), (aN_grounds, .inl (gJ G, 3, .inr (.inl N_grounds))), (aN_airs, .inl (gJ G, 6, .inr (.inl N_airs))), (aN_tolds, .inl (gJ G, 3, .inr (.inl N_tolds))), (aN_fees, .inl (gI G, 6, .inl N_fees)), (aN_lets, .inl (gI G, 6, .inl N_lets)), (aN_kinds, .inl (gI G, 6, .inl N_kinds)), (aN_cells, .inl (gI G, 6, .inl N_cells)), (aN_selves, .inl (gI G, 6, .inl N_selves)), (aN_cries, .inl (gI G, 6, .inl N_cries)), (aN_parts, .inl (gI G, 40, .inl N_parts)), (aR, .inr (1, [.ref aR_text, .int R_length, .ref R_land, .int R_place, .int R_end, .int R_token, .ref aR_numbers]))] → lv_has ls 5 [(0, .ref aA), (1, .long x2)] → W p l e (RM 2 44) s m args below meth c H locs 0 0 Q (F0 m 115 ls [])) h ?_ ?_
    · skip
      intro x2 h
      intro H locs ls hW hl
      refine lv_iconst (v := 0) C.1.1 C.1.2.1 d_Ai_digest_115 (by decide) ?_
      refine lv_istore_n (lv' := [(3, .int 0), (0, .ref aA), (1, .long x2)]) C.1.1 C.1.2.1 d_Ai_digest_116 rfl hl (by decide) rfl (fun ls hl => ?_)
      refine jn_at (P := fun (x3 : Int64) => ∀ (H : Heap) (locs : List Loc) (ls : Array Slot), Wd G A s.heap H locs [(aA, .inr (3, [.ref aN, .ref A_draft, .ref aA_images, .ref aA_kept, .ref A_sound, .ref aR, .ref aA_refused, .ref aA_heardBy])), (aN, .inr (0, [.int N_width, .int N_height, .long N_everywhere, .long N_firstColumn, .long N_lastColumn, .ref aN_grounds, .ref aN_airs, .ref aN_tolds, .ref aN_fees, .ref aN_lets, .int N_makers, .ref aN_kinds, .ref aN_cells, .ref aN_selves, .ref aN_cries, .int N_leaves, .ref aN_parts, .int N_pasts, .ref aN_past])), (aN_grounds, .inl (gJ G, 3, .inr (.inl N_grounds))), (aN_airs, .inl (gJ G, 6, .inr (.inl N_airs))), (aN_tolds, .inl (gJ G, 3, .inr (.inl N_tolds))), (aN_fees, .inl (gI G, 6, .inl N_fees)), (aN_lets, .inl (gI G, 6, .inl N_lets)), (aN_kinds, .inl (gI G, 6, .inl N_kinds)), (aN_cells, .inl (gI G, 6, .inl N_cells)), (aN_selves, .inl (gI G, 6, .inl N_selves)), (aN_cries, .inl (gI G, 6, .inl N_cries)), (aN_parts, .inl (gI G, 40, .inl N_parts)), (aR, .inr (1, [.ref aR_text, .int R_length, .ref R_land, .int R_place, .int R_end, .int R_token, .ref aR_numbers]))] → lv_has ls 5 [(0, .ref aA), (1, .long x3)] → W p l e (RM 2 44) s m args below meth c H locs 0 0 Q (F0 m 146 ls [])) h ?_ ?_
      · skip
        intro x3 h
        intro H locs ls hW hl
        refine lv_iconst (v := 0) C.1.1 C.1.2.1 d_Ai_digest_146 (by decide) ?_
        refine lv_istore_n (lv' := [(3, .int 0), (0, .ref aA), (1, .long x3)]) C.1.1 C.1.2.1 d_Ai_digest_147 rfl hl (by decide) rfl (fun ls hl => ?_)
        refine jn_at (P := fun (x4 : Int64) => ∀ (H : Heap) (locs : List Loc) (ls : Array Slot), Wd G A s.heap H locs [(aA, .inr (3, [.ref aN, .ref A_draft, .ref aA_images, .ref aA_kept, .ref A_sound, .ref aR, .ref aA_refused, .ref aA_heardBy])), (aN, .inr (0, [.int N_width, .int N_height, .long N_everywhere, .long N_firstColumn, .long N_lastColumn, .ref aN_grounds, .ref aN_airs, .ref aN_tolds, .ref aN_fees, .ref aN_lets, .int N_makers, .ref aN_kinds, .ref aN_cells, .ref aN_selves, .ref aN_cries, .int N_leaves, .ref aN_parts, .int N_pasts, .ref aN_past])), (aN_grounds, .inl (gJ G, 3, .inr (.inl N_grounds))), (aN_airs, .inl (gJ G, 6, .inr (.inl N_airs))), (aN_tolds, .inl (gJ G, 3, .inr (.inl N_tolds))), (aN_fees, .inl (gI G, 6, .inl N_fees)), (aN_lets, .inl (gI G, 6, .inl N_lets)), (aN_kinds, .inl (gI G, 6, .inl N_kinds)), (aN_cells, .inl (gI G, 6, .inl N_cells)), (aN_selves, .inl (gI G, 6, .inl N_selves)), (aN_cries, .inl (gI G, 6, .inl N_cries)), (aN_parts, .inl (gI G, 40, .inl N_parts)), (aR, .inr (1, [.ref aR_text, .int R_length, .ref R_land, .int R_place, .int R_end, .int R_token, .ref aR_numbers]))] → lv_has ls 5 [(0, .ref aA), (1, .long x4)] → W p l e (RM 2 44) s m args below meth c H locs 0 0 Q (F0 m 177 ls [])) h ?_ ?_
        · skip
          intro x4 h
          intro H locs ls hW hl
          refine lv_iconst (v := 0) C.1.1 C.1.2.1 d_Ai_digest_177 (by decide) ?_
          refine lv_istore_n (lv' := [(3, .int 0), (0, .ref aA), (1, .long x4)]) C.1.1 C.1.2.1 d_Ai_digest_178 rfl hl (by decide) rfl (fun ls hl => ?_)
          refine jn_at (P := fun (x5 : Int64) => ∀ (H : Heap) (locs : List Loc) (ls : Array Slot), Wd G A s.heap H locs [(aA, .inr (3, [.ref aN, .ref A_draft, .ref aA_images, .ref aA_kept, .ref A_sound, .ref aR, .ref aA_refused, .ref aA_heardBy])), (aN, .inr (0, [.int N_width, .int N_height, .long N_everywhere, .long N_firstColumn, .long N_lastColumn, .ref aN_grounds, .ref aN_airs, .ref aN_tolds, .ref aN_fees, .ref aN_lets, .int N_makers, .ref aN_kinds, .ref aN_cells, .ref aN_selves, .ref aN_cries, .int N_leaves, .ref aN_parts, .int N_pasts, .ref aN_past])), (aN_grounds, .inl (gJ G, 3, .inr (.inl N_grounds))), (aN_airs, .inl (gJ G, 6, .inr (.inl N_airs))), (aN_tolds, .inl (gJ G, 3, .inr (.inl N_tolds))), (aN_fees, .inl (gI G, 6, .inl N_fees)), (aN_lets, .inl (gI G, 6, .inl N_lets)), (aN_kinds, .inl (gI G, 6, .inl N_kinds)), (aN_cells, .inl (gI G, 6, .inl N_cells)), (aN_selves, .inl (gI G, 6, .inl N_selves)), (aN_cries, .inl (gI G, 6, .inl N_cries)), (aN_parts, .inl (gI G, 40, .inl N_parts)), (aR, .inr (1, [.ref aR_text, .int R_length, .ref R_land, .int R_place, .int R_end, .int R_token, .ref aR_numbers]))] → lv_has ls 5 [(0, .ref aA), (1, .long x5)] → W p l e (RM 2 44) s m args below meth c H locs 0 0 Q (F0 m 264 ls [])) h ?_ ?_
          · skip
            intro x5 h
            intro H locs ls hW hl
            refine lv_iconst (v := 0) C.1.1 C.1.2.1 d_Ai_digest_264 (by decide) ?_
            refine lv_istore_n (lv' := [(3, .int 0), (0, .ref aA), (1, .long x5)]) C.1.1 C.1.2.1 d_Ai_digest_265 rfl hl (by decide) rfl (fun ls hl => ?_)
            refine lp_at (P := fun ((x6, x7) : Int64 × Int32) => ∀ (H : Heap) (locs : List Loc) (ls : Array Slot), Wd G A s.heap H locs [(aA, .inr (3, [.ref aN, .ref A_draft, .ref aA_images, .ref aA_kept, .ref A_sound, .ref aR, .ref aA_refused, .ref aA_heardBy])), (aN, .inr (0, [.int N_width, .int N_height, .long N_everywhere, .long N_firstColumn, .long N_lastColumn, .ref aN_grounds, .ref aN_airs, .ref aN_tolds, .ref aN_fees, .ref aN_lets, .int N_makers, .ref aN_kinds, .ref aN_cells, .ref aN_selves, .ref aN_cries, .int N_leaves, .ref aN_parts, .int N_pasts, .ref aN_past])), (aN_grounds, .inl (gJ G, 3, .inr (.inl N_grounds))), (aN_airs, .inl (gJ G, 6, .inr (.inl N_airs))), (aN_tolds, .inl (gJ G, 3, .inr (.inl N_tolds))), (aN_fees, .inl (gI G, 6, .inl N_fees)), (aN_lets, .inl (gI G, 6, .inl N_lets)), (aN_kinds, .inl (gI G, 6, .inl N_kinds)), (aN_cells, .inl (gI G, 6, .inl N_cells)), (aN_selves, .inl (gI G, 6, .inl N_selves)), (aN_cries, .inl (gI G, 6, .inl N_cries)), (aN_parts, .inl (gI G, 40, .inl N_parts)), (aR, .inr (1, [.ref aR_text, .int R_length, .ref R_land, .int R_place, .int R_end, .int R_token, .ref aR_numbers]))] → lv_has ls 5 [(0, .ref aA), (1, .long x6), (3, .int x7)] → W p l e (RM 2 44) s m args below meth c H locs 0 0 Q (F0 m 266 ls [])) ?_ FU _ h _ _ _ hW (lv_sub hl [1, 2, 0] rfl)
            clear h hl hW
            intro rec266 ih266
            intro x h
            obtain ⟨x6, x7⟩ := x
            unfold f_Ai_digest_L266 at h
            intro H locs ls hW hl
            refine lv_iload_n C.1.1 C.1.2.1 d_Ai_digest_266 rfl (lv_at hl 2 rfl) ?_
            refine lv_aload_n C.1.1 C.1.2.1 d_Ai_digest_267 rfl (lv_at hl 0 rfl) ?_
            refine x_get C hE hW fl_Ai_12 0 rfl rfl d_Ai_digest_268 ?_
            refine x_get C hE hW fl_Ai_97 1 rfl rfl d_Ai_digest_271 ?_
            refine lv_icmp_ge (tgt := 316) C.1.1 C.1.2.1 d_Ai_digest_274 (by decide) (fun cc => ?_) (fun cc => ?_)
            · replace h := it_t cc h
              refine lv_lload_n C.1.1 C.1.2.1 d_Ai_digest_316 rfl (lv_at hl 1 rfl) ?_
              obtain rfl := Option.some.inj h
              exact x_lret C hW rfl rfl hQ d_Ai_digest_317
            · replace h := it_f cc h
              refine lv_iconst (v := 0) C.1.1 C.1.2.1 d_Ai_digest_277 (by decide) ?_
              refine lv_istore (lv' := [(4, .int 0), (0, .ref aA), (1, .long x6), (3, .int x7)]) C.1.1 C.1.2.1 d_Ai_digest_278 hl (by decide) rfl (fun ls hl => ?_)
              refine jn_at (P := fun (x8 : Int64) => ∀ (H : Heap) (locs : List Loc) (ls : Array Slot), Wd G A s.heap H locs [(aA, .inr (3, [.ref aN, .ref A_draft, .ref aA_images, .ref aA_kept, .ref A_sound, .ref aR, .ref aA_refused, .ref aA_heardBy])), (aN, .inr (0, [.int N_width, .int N_height, .long N_everywhere, .long N_firstColumn, .long N_lastColumn, .ref aN_grounds, .ref aN_airs, .ref aN_tolds, .ref aN_fees, .ref aN_lets, .int N_makers, .ref aN_kinds, .ref aN_cells, .ref aN_selves, .ref aN_cries, .int N_leaves, .ref aN_parts, .int N_pasts, .ref aN_past])), (aN_grounds, .inl (gJ G, 3, .inr (.inl N_grounds))), (aN_airs, .inl (gJ G, 6, .inr (.inl N_airs))), (aN_tolds, .inl (gJ G, 3, .inr (.inl N_tolds))), (aN_fees, .inl (gI G, 6, .inl N_fees)), (aN_lets, .inl (gI G, 6, .inl N_lets)), (aN_kinds, .inl (gI G, 6, .inl N_kinds)), (aN_cells, .inl (gI G, 6, .inl N_cells)), (aN_selves, .inl (gI G, 6, .inl N_selves)), (aN_cries, .inl (gI G, 6, .inl N_cries)), (aN_parts, .inl (gI G, 40, .inl N_parts)), (aR, .inr (1, [.ref aR_text, .int R_length, .ref R_land, .int R_place, .int R_end, .int R_token, .ref aR_numbers]))] → lv_has ls 5 [(0, .ref aA), (1, .long x8), (3, .int x7)] → W p l e (RM 2 44) s m args below meth c H locs 0 0 Q (F0 m 310 ls [])) h ?_ ?_
              · skip
                intro x8 h
                intro H locs ls hW hl
                obtain ⟨x9, ex9⟩ : ∃ y : Int32, y = x7 + 1 := ⟨_, rfl⟩
                replace h := lt_at ex9 h
                refine lv_iinc (v := x9) (lv' := [(3, .int x9), (0, .ref aA), (1, .long x8)]) C.1.1 C.1.2.1 d_Ai_digest_310 hl (k := 2) rfl (by rw [ex9]; rfl) (by decide) rfl (fun ls hl => ?_)
                refine lv_goto (tgt := 266) C.1.1 C.1.2.1 d_Ai_digest_313 (by decide) ?_
                exact ih266 _ h _ _ _ hW (lv_sub hl [1, 2, 0] rfl)
              · intro J310 hJ310 h
                refine lp_at (P := fun ((x10, x11) : Int64 × Int32) => ∀ (H : Heap) (locs : List Loc) (ls : Array Slot), Wd G A s.heap H locs [(aA, .inr (3, [.ref aN, .ref A_draft, .ref aA_images, .ref aA_kept, .ref A_sound, .ref aR, .ref aA_refused, .ref aA_heardBy])), (aN, .inr (0, [.int N_width, .int N_height, .long N_everywhere, .long N_firstColumn, .long N_lastColumn, .ref aN_grounds, .ref aN_airs, .ref aN_tolds, .ref aN_fees, .ref aN_lets, .int N_makers, .ref aN_kinds, .ref aN_cells, .ref aN_selves, .ref aN_cries, .int N_leaves, .ref aN_parts, .int N_pasts, .ref aN_past])), (aN_grounds, .inl (gJ G, 3, .inr (.inl N_grounds))), (aN_airs, .inl (gJ G, 6, .inr (.inl N_airs))), (aN_tolds, .inl (gJ G, 3, .inr (.inl N_tolds))), (aN_fees, .inl (gI G, 6, .inl N_fees)), (aN_lets, .inl (gI G, 6, .inl N_lets)), (aN_kinds, .inl (gI G, 6, .inl N_kinds)), (aN_cells, .inl (gI G, 6, .inl N_cells)), (aN_selves, .inl (gI G, 6, .inl N_selves)), (aN_cries, .inl (gI G, 6, .inl N_cries)), (aN_parts, .inl (gI G, 40, .inl N_parts)), (aR, .inr (1, [.ref aR_text, .int R_length, .ref R_land, .int R_place, .int R_end, .int R_token, .ref aR_numbers]))] → lv_has ls 5 [(0, .ref aA), (1, .long x10), (3, .int x7), (4, .int x11)] → W p l e (RM 2 44) s m args below meth c H locs 0 0 Q (F0 m 280 ls [])) ?_ FU _ h _ _ _ hW (lv_sub hl [1, 2, 3, 0] rfl)
                clear h hl hW
                intro rec280 ih280
                intro x h
                obtain ⟨x10, x11⟩ := x
                unfold f_Ai_digest_L280 at h
                intro H locs ls hW hl
                refine lv_iload C.1.1 C.1.2.1 d_Ai_digest_280 (lv_at hl 3 rfl) ?_
                refine lv_iconst (v := 5) C.1.1 C.1.2.1 d_Ai_digest_282 (by decide) ?_
                refine lv_icmp_ge (tgt := 310) C.1.1 C.1.2.1 d_Ai_digest_283 (by decide) (fun cc => ?_) (fun cc => ?_)
                · replace h := it_t cc h
                  exact hJ310 _ h _ _ _ hW (lv_sub hl [0, 1, 2] rfl)
                · replace h := it_f cc h
                  refine lv_ldc2 (own := "LentAir") (v := 31) C.1.1 C.1.2.1 C.1.2.2.2.1 (C.w tw804) d_Ai_digest_286 ?_
                  refine lv_lload_n C.1.1 C.1.2.1 d_Ai_digest_289 rfl (lv_at hl 1 rfl) ?_
                  refine lv_lmul C.1.1 C.1.2.1 d_Ai_digest_290 ?_
                  refine lv_aload_n C.1.1 C.1.2.1 d_Ai_digest_291 rfl (lv_at hl 0 rfl) ?_
                  refine x_get C hE hW fl_Ai_12 0 rfl rfl d_Ai_digest_292 ?_
                  refine lv_iload_n C.1.1 C.1.2.1 d_Ai_digest_295 rfl (lv_at hl 2 rfl) ?_
                  refine lv_iload C.1.1 C.1.2.1 d_Ai_digest_296 (lv_at hl 3 rfl) ?_
                  obtain ⟨x12, hc13, h⟩ := bd_at h
                  refine x_callV (ws' := [(aA, .inr (3, [.ref aN, .ref A_draft, .ref aA_images, .ref aA_kept, .ref A_sound, .ref aR, .ref aA_refused, .ref aA_heardBy])), (aN, .inr (0, [.int N_width, .int N_height, .long N_everywhere, .long N_firstColumn, .long N_lastColumn, .ref aN_grounds, .ref aN_airs, .ref aN_tolds, .ref aN_fees, .ref aN_lets, .int N_makers, .ref aN_kinds, .ref aN_cells, .ref aN_selves, .ref aN_cries, .int N_leaves, .ref aN_parts, .int N_pasts, .ref aN_past])), (aN_grounds, .inl (gJ G, 3, .inr (.inl N_grounds))), (aN_airs, .inl (gJ G, 6, .inr (.inl N_airs))), (aN_tolds, .inl (gJ G, 3, .inr (.inl N_tolds))), (aN_fees, .inl (gI G, 6, .inl N_fees)), (aN_lets, .inl (gI G, 6, .inl N_lets)), (aN_kinds, .inl (gI G, 6, .inl N_kinds)), (aN_cells, .inl (gI G, 6, .inl N_cells)), (aN_selves, .inl (gI G, 6, .inl N_selves)), (aN_cries, .inl (gI G, 6, .inl N_cries)), (aN_parts, .inl (gI G, 40, .inl N_parts)), (aR, .inr (1, [.ref aR_text, .int R_length, .ref R_land, .int R_place, .int R_end, .int R_token, .ref aR_numbers]))]) (stk := [.int x12, .long ((31 : Int64) * x10)]) (rest := [.long ((31 : Int64) * x10)]) (As := [.int x7, .int x11]) (q0 := 1) C hE hW (c_Ld_part l G aN aN_grounds aN_airs aN_tolds aN_fees aN_lets aN_kinds aN_cells aN_selves aN_cries aN_parts aN_past N_width N_height N_everywhere N_firstColumn N_lastColumn N_makers N_leaves N_pasts N_parts x7 x11 hc13) cv_Ld_part tw403 hl rfl rfl (Nat.le_of_ble_eq_true rfl) rfl rfl rfl ⟨Nat.le_of_ble_eq_true rfl, Nat.le_of_ble_eq_true rfl⟩ ⟨Nat.zero_le _, Nat.zero_le _⟩ [1, 11] [0, 2, 3, 4, 5, 6, 7, 8, 9, 10, 12] [0, 11, 1, 2, 3, 4, 5, 6, 7, 8, 9, 12, 10] rfl rfl rfl (by decide) rfl rfl rfl rfl d_Ai_digest_298 (fun H locs hW => ?_)
                  refine lv_i2l C.1.1 C.1.2.1 d_Ai_digest_301 rfl ?_
                  refine lv_ladd C.1.1 C.1.2.1 d_Ai_digest_302 ?_
                  refine lv_topl (fun x14 ex14 => ?_)
                  replace h := lt_at ex14 h
                  refine lv_lstore_n (lv' := [(1, .long x14), (0, .ref aA), (3, .int x7), (4, .int x11)]) C.1.1 C.1.2.1 d_Ai_digest_303 rfl hl (by decide) rfl (fun ls hl => ?_)
                  obtain ⟨x15, ex15⟩ : ∃ y : Int32, y = x11 + 1 := ⟨_, rfl⟩
                  replace h := lt_at ex15 h
                  refine lv_iinc (v := x15) (lv' := [(4, .int x15), (1, .long x14), (0, .ref aA), (3, .int x7)]) C.1.1 C.1.2.1 d_Ai_digest_304 hl (k := 3) rfl (by rw [ex15]; rfl) (by decide) rfl (fun ls hl => ?_)
                  refine lv_goto (tgt := 280) C.1.1 C.1.2.1 d_Ai_digest_307 (by decide) ?_
                  exact ih280 _ h _ _ _ hW (lv_sub hl [2, 1, 3, 0] rfl)
          · intro J264 hJ264 h
            refine lp_at (P := fun ((x16, x17) : Int64 × Int32) => ∀ (H : Heap) (locs : List Loc) (ls : Array Slot), Wd G A s.heap H locs [(aA, .inr (3, [.ref aN, .ref A_draft, .ref aA_images, .ref aA_kept, .ref A_sound, .ref aR, .ref aA_refused, .ref aA_heardBy])), (aN, .inr (0, [.int N_width, .int N_height, .long N_everywhere, .long N_firstColumn, .long N_lastColumn, .ref aN_grounds, .ref aN_airs, .ref aN_tolds, .ref aN_fees, .ref aN_lets, .int N_makers, .ref aN_kinds, .ref aN_cells, .ref aN_selves, .ref aN_cries, .int N_leaves, .ref aN_parts, .int N_pasts, .ref aN_past])), (aN_grounds, .inl (gJ G, 3, .inr (.inl N_grounds))), (aN_airs, .inl (gJ G, 6, .inr (.inl N_airs))), (aN_tolds, .inl (gJ G, 3, .inr (.inl N_tolds))), (aN_fees, .inl (gI G, 6, .inl N_fees)), (aN_lets, .inl (gI G, 6, .inl N_lets)), (aN_kinds, .inl (gI G, 6, .inl N_kinds)), (aN_cells, .inl (gI G, 6, .inl N_cells)), (aN_selves, .inl (gI G, 6, .inl N_selves)), (aN_cries, .inl (gI G, 6, .inl N_cries)), (aN_parts, .inl (gI G, 40, .inl N_parts)), (aR, .inr (1, [.ref aR_text, .int R_length, .ref R_land, .int R_place, .int R_end, .int R_token, .ref aR_numbers]))] → lv_has ls 5 [(0, .ref aA), (1, .long x16), (3, .int x17)] → W p l e (RM 2 44) s m args below meth c H locs 0 0 Q (F0 m 179 ls [])) ?_ FU _ h _ _ _ hW (lv_sub hl [1, 2, 0] rfl)
            clear h hl hW
            intro rec179 ih179
            intro x h
            obtain ⟨x16, x17⟩ := x
            unfold f_Ai_digest_L179 at h
            intro H locs ls hW hl
            refine lv_iload_n C.1.1 C.1.2.1 d_Ai_digest_179 rfl (lv_at hl 2 rfl) ?_
            refine lv_aload_n C.1.1 C.1.2.1 d_Ai_digest_180 rfl (lv_at hl 0 rfl) ?_
            refine x_get C hE hW fl_Ai_12 0 rfl rfl d_Ai_digest_181 ?_
            refine x_get C hE hW fl_Ai_80 1 rfl rfl d_Ai_digest_184 ?_
            refine lv_icmp_ge (tgt := 264) C.1.1 C.1.2.1 d_Ai_digest_187 (by decide) (fun cc => ?_) (fun cc => ?_)
            · replace h := it_t cc h
              exact hJ264 _ h _ _ _ hW (lv_sub hl [0, 1] rfl)
            · replace h := it_f cc h
              refine lv_ldc2 (own := "LentAir") (v := 31) C.1.1 C.1.2.1 C.1.2.2.2.1 (C.w tw804) d_Ai_digest_190 ?_
              refine lv_lload_n C.1.1 C.1.2.1 d_Ai_digest_193 rfl (lv_at hl 1 rfl) ?_
              refine lv_lmul C.1.1 C.1.2.1 d_Ai_digest_194 ?_
              refine lv_aload_n C.1.1 C.1.2.1 d_Ai_digest_195 rfl (lv_at hl 0 rfl) ?_
              refine x_get C hE hW fl_Ai_12 0 rfl rfl d_Ai_digest_196 ?_
              refine x_get C hE hW fl_Ai_269 1 rfl rfl d_Ai_digest_199 ?_
              refine lv_iload_n C.1.1 C.1.2.1 d_Ai_digest_202 rfl (lv_at hl 2 rfl) ?_
              obtain ⟨hg, h⟩ := gd_at h
              refine x_iald C hE hW 7 rfl (inB_in hg) d_Ai_digest_203 ?_
              refine lv_i2l C.1.1 C.1.2.1 d_Ai_digest_204 rfl ?_
              refine lv_ladd C.1.1 C.1.2.1 d_Ai_digest_205 ?_
              refine lv_topl (fun x18 ex18 => ?_)
              replace h := lt_at ex18 h
              refine lv_lstore_n (lv' := [(1, .long x18), (0, .ref aA), (3, .int x17)]) C.1.1 C.1.2.1 d_Ai_digest_206 rfl hl (by decide) rfl (fun ls hl => ?_)
              refine lv_ldc2 (own := "LentAir") (v := 31) C.1.1 C.1.2.1 C.1.2.2.2.1 (C.w tw804) d_Ai_digest_207 ?_
              refine lv_lload_n C.1.1 C.1.2.1 d_Ai_digest_210 rfl (lv_at hl 0 rfl) ?_
              refine lv_lmul C.1.1 C.1.2.1 d_Ai_digest_211 ?_
              refine lv_aload_n C.1.1 C.1.2.1 d_Ai_digest_212 rfl (lv_at hl 1 rfl) ?_
              refine x_get C hE hW fl_Ai_12 0 rfl rfl d_Ai_digest_213 ?_
              refine x_get C hE hW fl_Ai_272 1 rfl rfl d_Ai_digest_216 ?_
              refine lv_iload_n C.1.1 C.1.2.1 d_Ai_digest_219 rfl (lv_at hl 2 rfl) ?_
              obtain ⟨hg, h⟩ := gd_at h
              refine x_iald C hE hW 8 rfl (inB_in hg) d_Ai_digest_220 ?_
              refine lv_i2l C.1.1 C.1.2.1 d_Ai_digest_221 rfl ?_
              refine lv_ladd C.1.1 C.1.2.1 d_Ai_digest_222 ?_
              refine lv_topl (fun x19 ex19 => ?_)
              replace h := lt_at ex19 h
              refine lv_lstore_n (lv' := [(1, .long x19), (0, .ref aA), (3, .int x17)]) C.1.1 C.1.2.1 d_Ai_digest_223 rfl hl (by decide) rfl (fun ls hl => ?_)
              refine lv_ldc2 (own := "LentAir") (v := 31) C.1.1 C.1.2.1 C.1.2.2.2.1 (C.w tw804) d_Ai_digest_224 ?_
              refine lv_lload_n C.1.1 C.1.2.1 d_Ai_digest_227 rfl (lv_at hl 0 rfl) ?_
              refine lv_lmul C.1.1 C.1.2.1 d_Ai_digest_228 ?_
              refine lv_aload_n C.1.1 C.1.2.1 d_Ai_digest_229 rfl (lv_at hl 1 rfl) ?_
              refine x_get C hE hW fl_Ai_12 0 rfl rfl d_Ai_digest_230 ?_
              refine x_get C hE hW fl_Ai_185 1 rfl rfl d_Ai_digest_233 ?_
              refine lv_iload_n C.1.1 C.1.2.1 d_Ai_digest_236 rfl (lv_at hl 2 rfl) ?_
              obtain ⟨hg, h⟩ := gd_at h
              refine x_iald C hE hW 9 rfl (inB_in hg) d_Ai_digest_237 ?_
              refine lv_i2l C.1.1 C.1.2.1 d_Ai_digest_238 rfl ?_
              refine lv_ladd C.1.1 C.1.2.1 d_Ai_digest_239 ?_
              refine lv_topl (fun x20 ex20 => ?_)
              replace h := lt_at ex20 h
              refine lv_lstore_n (lv' := [(1, .long x20), (0, .ref aA), (3, .int x17)]) C.1.1 C.1.2.1 d_Ai_digest_240 rfl hl (by decide) rfl (fun ls hl => ?_)
              refine lv_ldc2 (own := "LentAir") (v := 31) C.1.1 C.1.2.1 C.1.2.2.2.1 (C.w tw804) d_Ai_digest_241 ?_
              refine lv_lload_n C.1.1 C.1.2.1 d_Ai_digest_244 rfl (lv_at hl 0 rfl) ?_
              refine lv_lmul C.1.1 C.1.2.1 d_Ai_digest_245 ?_
              refine lv_aload_n C.1.1 C.1.2.1 d_Ai_digest_246 rfl (lv_at hl 1 rfl) ?_
              refine x_get C hE hW fl_Ai_12 0 rfl rfl d_Ai_digest_247 ?_
              refine x_get C hE hW fl_Ai_207 1 rfl rfl d_Ai_digest_250 ?_
              refine lv_iload_n C.1.1 C.1.2.1 d_Ai_digest_253 rfl (lv_at hl 2 rfl) ?_
              obtain ⟨hg, h⟩ := gd_at h
              refine x_iald C hE hW 10 rfl (inB_in hg) d_Ai_digest_254 ?_
              refine lv_i2l C.1.1 C.1.2.1 d_Ai_digest_255 rfl ?_
              refine lv_ladd C.1.1 C.1.2.1 d_Ai_digest_256 ?_
              refine lv_topl (fun x21 ex21 => ?_)
              replace h := lt_at ex21 h
              refine lv_lstore_n (lv' := [(1, .long x21), (0, .ref aA), (3, .int x17)]) C.1.1 C.1.2.1 d_Ai_digest_257 rfl hl (by decide) rfl (fun ls hl => ?_)
              obtain ⟨x22, ex22⟩ : ∃ y : Int32, y = x17 + 1 := ⟨_, rfl⟩
              replace h := lt_at ex22 h
              refine lv_iinc (v := x22) (lv' := [(3, .int x22), (1, .long x21), (0, .ref aA)]) C.1.1 C.1.2.1 d_Ai_digest_258 hl (k := 2) rfl (by rw [ex22]; rfl) (by decide) rfl (fun ls hl => ?_)
              refine lv_goto (tgt := 179) C.1.1 C.1.2.1 d_Ai_digest_261 (by decide) ?_
              exact ih179 _ h _ _ _ hW (lv_sub hl [2, 1, 0] rfl)
        · intro J177 hJ177 h
          refine lp_at (P := fun ((x23, x24) : Int64 × Int32) => ∀ (H : Heap) (locs : List Loc) (ls : Array Slot), Wd G A s.heap H locs [(aA, .inr (3, [.ref aN, .ref A_draft, .ref aA_images, .ref aA_kept, .ref A_sound, .ref aR, .ref aA_refused, .ref aA_heardBy])), (aN, .inr (0, [.int N_width, .int N_height, .long N_everywhere, .long N_firstColumn, .long N_lastColumn, .ref aN_grounds, .ref aN_airs, .ref aN_tolds, .ref aN_fees, .ref aN_lets, .int N_makers, .ref aN_kinds, .ref aN_cells, .ref aN_selves, .ref aN_cries, .int N_leaves, .ref aN_parts, .int N_pasts, .ref aN_past])), (aN_grounds, .inl (gJ G, 3, .inr (.inl N_grounds))), (aN_airs, .inl (gJ G, 6, .inr (.inl N_airs))), (aN_tolds, .inl (gJ G, 3, .inr (.inl N_tolds))), (aN_fees, .inl (gI G, 6, .inl N_fees)), (aN_lets, .inl (gI G, 6, .inl N_lets)), (aN_kinds, .inl (gI G, 6, .inl N_kinds)), (aN_cells, .inl (gI G, 6, .inl N_cells)), (aN_selves, .inl (gI G, 6, .inl N_selves)), (aN_cries, .inl (gI G, 6, .inl N_cries)), (aN_parts, .inl (gI G, 40, .inl N_parts)), (aR, .inr (1, [.ref aR_text, .int R_length, .ref R_land, .int R_place, .int R_end, .int R_token, .ref aR_numbers]))] → lv_has ls 5 [(0, .ref aA), (1, .long x23), (3, .int x24)] → W p l e (RM 2 44) s m args below meth c H locs 0 0 Q (F0 m 148 ls [])) ?_ FU _ h _ _ _ hW (lv_sub hl [1, 2, 0] rfl)
          clear h hl hW
          intro rec148 ih148
          intro x h
          obtain ⟨x23, x24⟩ := x
          unfold f_Ai_digest_L148 at h
          intro H locs ls hW hl
          refine lv_iload_n C.1.1 C.1.2.1 d_Ai_digest_148 rfl (lv_at hl 2 rfl) ?_
          refine lv_bipush (v := 6) C.1.1 C.1.2.1 d_Ai_digest_149 (by decide) ?_
          refine lv_icmp_ge (tgt := 177) C.1.1 C.1.2.1 d_Ai_digest_151 (by decide) (fun cc => ?_) (fun cc => ?_)
          · replace h := it_t cc h
            exact hJ177 _ h _ _ _ hW (lv_sub hl [0, 1] rfl)
          · replace h := it_f cc h
            refine lv_ldc2 (own := "LentAir") (v := 31) C.1.1 C.1.2.1 C.1.2.2.2.1 (C.w tw804) d_Ai_digest_154 ?_
            refine lv_lload_n C.1.1 C.1.2.1 d_Ai_digest_157 rfl (lv_at hl 1 rfl) ?_
            refine lv_lmul C.1.1 C.1.2.1 d_Ai_digest_158 ?_
            refine lv_aload_n C.1.1 C.1.2.1 d_Ai_digest_159 rfl (lv_at hl 0 rfl) ?_
            refine x_get C hE hW fl_Ai_12 0 rfl rfl d_Ai_digest_160 ?_
            refine x_get C hE hW fl_Ai_219 1 rfl rfl d_Ai_digest_163 ?_
            refine lv_iload_n C.1.1 C.1.2.1 d_Ai_digest_166 rfl (lv_at hl 2 rfl) ?_
            obtain ⟨hg, h⟩ := gd_at h
            refine x_iald C hE hW 6 rfl (inB_in hg) d_Ai_digest_167 ?_
            refine lv_i2l C.1.1 C.1.2.1 d_Ai_digest_168 rfl ?_
            refine lv_ladd C.1.1 C.1.2.1 d_Ai_digest_169 ?_
            refine lv_topl (fun x25 ex25 => ?_)
            replace h := lt_at ex25 h
            refine lv_lstore_n (lv' := [(1, .long x25), (0, .ref aA), (3, .int x24)]) C.1.1 C.1.2.1 d_Ai_digest_170 rfl hl (by decide) rfl (fun ls hl => ?_)
            obtain ⟨x26, ex26⟩ : ∃ y : Int32, y = x24 + 1 := ⟨_, rfl⟩
            replace h := lt_at ex26 h
            refine lv_iinc (v := x26) (lv' := [(3, .int x26), (1, .long x25), (0, .ref aA)]) C.1.1 C.1.2.1 d_Ai_digest_171 hl (k := 2) rfl (by rw [ex26]; rfl) (by decide) rfl (fun ls hl => ?_)
            refine lv_goto (tgt := 148) C.1.1 C.1.2.1 d_Ai_digest_174 (by decide) ?_
            exact ih148 _ h _ _ _ hW (lv_sub hl [2, 1, 0] rfl)
      · intro J146 hJ146 h
        refine lp_at (P := fun ((x27, x28) : Int64 × Int32) => ∀ (H : Heap) (locs : List Loc) (ls : Array Slot), Wd G A s.heap H locs [(aA, .inr (3, [.ref aN, .ref A_draft, .ref aA_images, .ref aA_kept, .ref A_sound, .ref aR, .ref aA_refused, .ref aA_heardBy])), (aN, .inr (0, [.int N_width, .int N_height, .long N_everywhere, .long N_firstColumn, .long N_lastColumn, .ref aN_grounds, .ref aN_airs, .ref aN_tolds, .ref aN_fees, .ref aN_lets, .int N_makers, .ref aN_kinds, .ref aN_cells, .ref aN_selves, .ref aN_cries, .int N_leaves, .ref aN_parts, .int N_pasts, .ref aN_past])), (aN_grounds, .inl (gJ G, 3, .inr (.inl N_grounds))), (aN_airs, .inl (gJ G, 6, .inr (.inl N_airs))), (aN_tolds, .inl (gJ G, 3, .inr (.inl N_tolds))), (aN_fees, .inl (gI G, 6, .inl N_fees)), (aN_lets, .inl (gI G, 6, .inl N_lets)), (aN_kinds, .inl (gI G, 6, .inl N_kinds)), (aN_cells, .inl (gI G, 6, .inl N_cells)), (aN_selves, .inl (gI G, 6, .inl N_selves)), (aN_cries, .inl (gI G, 6, .inl N_cries)), (aN_parts, .inl (gI G, 40, .inl N_parts)), (aR, .inr (1, [.ref aR_text, .int R_length, .ref R_land, .int R_place, .int R_end, .int R_token, .ref aR_numbers]))] → lv_has ls 5 [(0, .ref aA), (1, .long x27), (3, .int x28)] → W p l e (RM 2 44) s m args below meth c H locs 0 0 Q (F0 m 117 ls [])) ?_ FU _ h _ _ _ hW (lv_sub hl [1, 2, 0] rfl)
        clear h hl hW
        intro rec117 ih117
        intro x h
        obtain ⟨x27, x28⟩ := x
        unfold f_Ai_digest_L117 at h
        intro H locs ls hW hl
        refine lv_iload_n C.1.1 C.1.2.1 d_Ai_digest_117 rfl (lv_at hl 2 rfl) ?_
        refine lv_bipush (v := 6) C.1.1 C.1.2.1 d_Ai_digest_118 (by decide) ?_
        refine lv_icmp_ge (tgt := 146) C.1.1 C.1.2.1 d_Ai_digest_120 (by decide) (fun cc => ?_) (fun cc => ?_)
        · replace h := it_t cc h
          exact hJ146 _ h _ _ _ hW (lv_sub hl [0, 1] rfl)
        · replace h := it_f cc h
          refine lv_ldc2 (own := "LentAir") (v := 31) C.1.1 C.1.2.1 C.1.2.2.2.1 (C.w tw804) d_Ai_digest_123 ?_
          refine lv_lload_n C.1.1 C.1.2.1 d_Ai_digest_126 rfl (lv_at hl 1 rfl) ?_
          refine lv_lmul C.1.1 C.1.2.1 d_Ai_digest_127 ?_
          refine lv_aload_n C.1.1 C.1.2.1 d_Ai_digest_128 rfl (lv_at hl 0 rfl) ?_
          refine x_get C hE hW fl_Ai_12 0 rfl rfl d_Ai_digest_129 ?_
          refine x_get C hE hW fl_Ai_266 1 rfl rfl d_Ai_digest_132 ?_
          refine lv_iload_n C.1.1 C.1.2.1 d_Ai_digest_135 rfl (lv_at hl 2 rfl) ?_
          obtain ⟨hg, h⟩ := gd_at h
          refine x_iald C hE hW 5 rfl (inB_in hg) d_Ai_digest_136 ?_
          refine lv_i2l C.1.1 C.1.2.1 d_Ai_digest_137 rfl ?_
          refine lv_ladd C.1.1 C.1.2.1 d_Ai_digest_138 ?_
          refine lv_topl (fun x29 ex29 => ?_)
          replace h := lt_at ex29 h
          refine lv_lstore_n (lv' := [(1, .long x29), (0, .ref aA), (3, .int x28)]) C.1.1 C.1.2.1 d_Ai_digest_139 rfl hl (by decide) rfl (fun ls hl => ?_)
          obtain ⟨x30, ex30⟩ : ∃ y : Int32, y = x28 + 1 := ⟨_, rfl⟩
          replace h := lt_at ex30 h
          refine lv_iinc (v := x30) (lv' := [(3, .int x30), (1, .long x29), (0, .ref aA)]) C.1.1 C.1.2.1 d_Ai_digest_140 hl (k := 2) rfl (by rw [ex30]; rfl) (by decide) rfl (fun ls hl => ?_)
          refine lv_goto (tgt := 117) C.1.1 C.1.2.1 d_Ai_digest_143 (by decide) ?_
          exact ih117 _ h _ _ _ hW (lv_sub hl [2, 1, 0] rfl)
    · intro J115 hJ115 h
      refine lp_at (P := fun ((x31, x32) : Int64 × Int32) => ∀ (H : Heap) (locs : List Loc) (ls : Array Slot), Wd G A s.heap H locs [(aA, .inr (3, [.ref aN, .ref A_draft, .ref aA_images, .ref aA_kept, .ref A_sound, .ref aR, .ref aA_refused, .ref aA_heardBy])), (aN, .inr (0, [.int N_width, .int N_height, .long N_everywhere, .long N_firstColumn, .long N_lastColumn, .ref aN_grounds, .ref aN_airs, .ref aN_tolds, .ref aN_fees, .ref aN_lets, .int N_makers, .ref aN_kinds, .ref aN_cells, .ref aN_selves, .ref aN_cries, .int N_leaves, .ref aN_parts, .int N_pasts, .ref aN_past])), (aN_grounds, .inl (gJ G, 3, .inr (.inl N_grounds))), (aN_airs, .inl (gJ G, 6, .inr (.inl N_airs))), (aN_tolds, .inl (gJ G, 3, .inr (.inl N_tolds))), (aN_fees, .inl (gI G, 6, .inl N_fees)), (aN_lets, .inl (gI G, 6, .inl N_lets)), (aN_kinds, .inl (gI G, 6, .inl N_kinds)), (aN_cells, .inl (gI G, 6, .inl N_cells)), (aN_selves, .inl (gI G, 6, .inl N_selves)), (aN_cries, .inl (gI G, 6, .inl N_cries)), (aN_parts, .inl (gI G, 40, .inl N_parts)), (aR, .inr (1, [.ref aR_text, .int R_length, .ref R_land, .int R_place, .int R_end, .int R_token, .ref aR_numbers]))] → lv_has ls 5 [(0, .ref aA), (1, .long x31), (3, .int x32)] → W p l e (RM 2 44) s m args below meth c H locs 0 0 Q (F0 m 33 ls [])) ?_ FU _ h _ _ _ hW (lv_sub hl [1, 2, 0] rfl)
      clear h hl hW
      intro rec33 ih33
      intro x h
      obtain ⟨x31, x32⟩ := x
      unfold f_Ai_digest_L33 at h
      intro H locs ls hW hl
      refine lv_iload_n C.1.1 C.1.2.1 d_Ai_digest_33 rfl (lv_at hl 2 rfl) ?_
      refine lv_aload_n C.1.1 C.1.2.1 d_Ai_digest_34 rfl (lv_at hl 0 rfl) ?_
      refine x_get C hE hW fl_Ai_12 0 rfl rfl d_Ai_digest_35 ?_
      refine x_get C hE hW fl_Ai_230 1 rfl rfl d_Ai_digest_38 ?_
      refine lv_aload_n C.1.1 C.1.2.1 d_Ai_digest_41 rfl (lv_at hl 0 rfl) ?_
      refine x_get C hE hW fl_Ai_12 0 rfl rfl d_Ai_digest_42 ?_
      refine x_get C hE hW fl_Ai_233 1 rfl rfl d_Ai_digest_45 ?_
      refine lv_imul C.1.1 C.1.2.1 d_Ai_digest_48 ?_
      refine lv_icmp_ge (tgt := 115) C.1.1 C.1.2.1 d_Ai_digest_49 (by decide) (fun cc => ?_) (fun cc => ?_)
      · replace h := it_t cc h
        exact hJ115 _ h _ _ _ hW (lv_sub hl [0, 1] rfl)
      · replace h := it_f cc h
        refine lv_ldc2 (own := "LentAir") (v := 31) C.1.1 C.1.2.1 C.1.2.2.2.1 (C.w tw804) d_Ai_digest_52 ?_
        refine lv_lload_n C.1.1 C.1.2.1 d_Ai_digest_55 rfl (lv_at hl 1 rfl) ?_
        refine lv_lmul C.1.1 C.1.2.1 d_Ai_digest_56 ?_
        refine lv_aload_n C.1.1 C.1.2.1 d_Ai_digest_57 rfl (lv_at hl 0 rfl) ?_
        refine x_get C hE hW fl_Ai_12 0 rfl rfl d_Ai_digest_58 ?_
        refine x_get C hE hW fl_Ai_62 1 rfl rfl d_Ai_digest_61 ?_
        refine lv_iload_n C.1.1 C.1.2.1 d_Ai_digest_64 rfl (lv_at hl 2 rfl) ?_
        obtain ⟨x33, hc34, h⟩ := bd_at h
        refine x_callS (ws' := [(aA, .inr (3, [.ref aN, .ref A_draft, .ref aA_images, .ref aA_kept, .ref A_sound, .ref aR, .ref aA_refused, .ref aA_heardBy])), (aN, .inr (0, [.int N_width, .int N_height, .long N_everywhere, .long N_firstColumn, .long N_lastColumn, .ref aN_grounds, .ref aN_airs, .ref aN_tolds, .ref aN_fees, .ref aN_lets, .int N_makers, .ref aN_kinds, .ref aN_cells, .ref aN_selves, .ref aN_cries, .int N_leaves, .ref aN_parts, .int N_pasts, .ref aN_past])), (aN_grounds, .inl (gJ G, 3, .inr (.inl N_grounds))), (aN_airs, .inl (gJ G, 6, .inr (.inl N_airs))), (aN_tolds, .inl (gJ G, 3, .inr (.inl N_tolds))), (aN_fees, .inl (gI G, 6, .inl N_fees)), (aN_lets, .inl (gI G, 6, .inl N_lets)), (aN_kinds, .inl (gI G, 6, .inl N_kinds)), (aN_cells, .inl (gI G, 6, .inl N_cells)), (aN_selves, .inl (gI G, 6, .inl N_selves)), (aN_cries, .inl (gI G, 6, .inl N_cries)), (aN_parts, .inl (gI G, 40, .inl N_parts)), (aR, .inr (1, [.ref aR_text, .int R_length, .ref R_land, .int R_place, .int R_end, .int R_token, .ref aR_numbers]))]) (stk := [.int x33, .long ((31 : Int64) * x31)]) (rest := [.long ((31 : Int64) * x31)]) (As := [.ref aN_grounds, .int x32]) C hE hW (c_Ld_rowOf l G aN_grounds 3 N_grounds x32 hc34) cv_Ld_rowOf tw805 hl rfl rfl (Nat.le_of_ble_eq_true rfl) ⟨Nat.le_of_ble_eq_true rfl, Nat.le_of_ble_eq_true rfl⟩ ⟨Nat.zero_le _, Nat.zero_le _⟩ [2] [0, 1, 3, 4, 5, 6, 7, 8, 9, 10, 11, 12] [0, 1, 12, 2, 3, 4, 5, 6, 7, 8, 9, 10, 11] rfl rfl rfl (by decide) rfl rfl rfl rfl d_Ai_digest_65 (fun H locs hW => ?_)
        refine lv_i2l C.1.1 C.1.2.1 d_Ai_digest_68 rfl ?_
        refine lv_ladd C.1.1 C.1.2.1 d_Ai_digest_69 ?_
        refine lv_topl (fun x35 ex35 => ?_)
        replace h := lt_at ex35 h
        refine lv_lstore_n (lv' := [(1, .long x35), (0, .ref aA), (3, .int x32)]) C.1.1 C.1.2.1 d_Ai_digest_70 rfl hl (by decide) rfl (fun ls hl => ?_)
        refine lv_ldc2 (own := "LentAir") (v := 31) C.1.1 C.1.2.1 C.1.2.2.2.1 (C.w tw804) d_Ai_digest_71 ?_
        refine lv_lload_n C.1.1 C.1.2.1 d_Ai_digest_74 rfl (lv_at hl 0 rfl) ?_
        refine lv_lmul C.1.1 C.1.2.1 d_Ai_digest_75 ?_
        refine lv_aload_n C.1.1 C.1.2.1 d_Ai_digest_76 rfl (lv_at hl 1 rfl) ?_
        refine x_get C hE hW fl_Ai_12 0 rfl rfl d_Ai_digest_77 ?_
        refine x_get C hE hW fl_Ai_70 1 rfl rfl d_Ai_digest_80 ?_
        refine lv_iload_n C.1.1 C.1.2.1 d_Ai_digest_83 rfl (lv_at hl 2 rfl) ?_
        obtain ⟨x36, hc37, h⟩ := bd_at h
        refine x_callS (ws' := [(aA, .inr (3, [.ref aN, .ref A_draft, .ref aA_images, .ref aA_kept, .ref A_sound, .ref aR, .ref aA_refused, .ref aA_heardBy])), (aN, .inr (0, [.int N_width, .int N_height, .long N_everywhere, .long N_firstColumn, .long N_lastColumn, .ref aN_grounds, .ref aN_airs, .ref aN_tolds, .ref aN_fees, .ref aN_lets, .int N_makers, .ref aN_kinds, .ref aN_cells, .ref aN_selves, .ref aN_cries, .int N_leaves, .ref aN_parts, .int N_pasts, .ref aN_past])), (aN_grounds, .inl (gJ G, 3, .inr (.inl N_grounds))), (aN_airs, .inl (gJ G, 6, .inr (.inl N_airs))), (aN_tolds, .inl (gJ G, 3, .inr (.inl N_tolds))), (aN_fees, .inl (gI G, 6, .inl N_fees)), (aN_lets, .inl (gI G, 6, .inl N_lets)), (aN_kinds, .inl (gI G, 6, .inl N_kinds)), (aN_cells, .inl (gI G, 6, .inl N_cells)), (aN_selves, .inl (gI G, 6, .inl N_selves)), (aN_cries, .inl (gI G, 6, .inl N_cries)), (aN_parts, .inl (gI G, 40, .inl N_parts)), (aR, .inr (1, [.ref aR_text, .int R_length, .ref R_land, .int R_place, .int R_end, .int R_token, .ref aR_numbers]))]) (stk := [.int x36, .long ((31 : Int64) * x35)]) (rest := [.long ((31 : Int64) * x35)]) (As := [.ref aN_airs, .int x32]) C hE hW (c_Ld_rowOf l G aN_airs 6 N_airs x32 hc37) cv_Ld_rowOf tw805 hl rfl rfl (Nat.le_of_ble_eq_true rfl) ⟨Nat.le_of_ble_eq_true rfl, Nat.le_of_ble_eq_true rfl⟩ ⟨Nat.zero_le _, Nat.zero_le _⟩ [3] [0, 1, 2, 4, 5, 6, 7, 8, 9, 10, 11, 12] [0, 1, 2, 12, 3, 4, 5, 6, 7, 8, 9, 10, 11] rfl rfl rfl (by decide) rfl rfl rfl rfl d_Ai_digest_84 (fun H locs hW => ?_)
        refine lv_i2l C.1.1 C.1.2.1 d_Ai_digest_87 rfl ?_
        refine lv_ladd C.1.1 C.1.2.1 d_Ai_digest_88 ?_
        refine lv_topl (fun x38 ex38 => ?_)
        replace h := lt_at ex38 h
        refine lv_lstore_n (lv' := [(1, .long x38), (0, .ref aA), (3, .int x32)]) C.1.1 C.1.2.1 d_Ai_digest_89 rfl hl (by decide) rfl (fun ls hl => ?_)
        refine lv_ldc2 (own := "LentAir") (v := 31) C.1.1 C.1.2.1 C.1.2.2.2.1 (C.w tw804) d_Ai_digest_90 ?_
        refine lv_lload_n C.1.1 C.1.2.1 d_Ai_digest_93 rfl (lv_at hl 0 rfl) ?_
        refine lv_lmul C.1.1 C.1.2.1 d_Ai_digest_94 ?_
        refine lv_aload_n C.1.1 C.1.2.1 d_Ai_digest_95 rfl (lv_at hl 1 rfl) ?_
        refine x_get C hE hW fl_Ai_12 0 rfl rfl d_Ai_digest_96 ?_
        refine x_get C hE hW fl_Ai_179 1 rfl rfl d_Ai_digest_99 ?_
        refine lv_iload_n C.1.1 C.1.2.1 d_Ai_digest_102 rfl (lv_at hl 2 rfl) ?_
        obtain ⟨x39, hc40, h⟩ := bd_at h
        refine x_callS (ws' := [(aA, .inr (3, [.ref aN, .ref A_draft, .ref aA_images, .ref aA_kept, .ref A_sound, .ref aR, .ref aA_refused, .ref aA_heardBy])), (aN, .inr (0, [.int N_width, .int N_height, .long N_everywhere, .long N_firstColumn, .long N_lastColumn, .ref aN_grounds, .ref aN_airs, .ref aN_tolds, .ref aN_fees, .ref aN_lets, .int N_makers, .ref aN_kinds, .ref aN_cells, .ref aN_selves, .ref aN_cries, .int N_leaves, .ref aN_parts, .int N_pasts, .ref aN_past])), (aN_grounds, .inl (gJ G, 3, .inr (.inl N_grounds))), (aN_airs, .inl (gJ G, 6, .inr (.inl N_airs))), (aN_tolds, .inl (gJ G, 3, .inr (.inl N_tolds))), (aN_fees, .inl (gI G, 6, .inl N_fees)), (aN_lets, .inl (gI G, 6, .inl N_lets)), (aN_kinds, .inl (gI G, 6, .inl N_kinds)), (aN_cells, .inl (gI G, 6, .inl N_cells)), (aN_selves, .inl (gI G, 6, .inl N_selves)), (aN_cries, .inl (gI G, 6, .inl N_cries)), (aN_parts, .inl (gI G, 40, .inl N_parts)), (aR, .inr (1, [.ref aR_text, .int R_length, .ref R_land, .int R_place, .int R_end, .int R_token, .ref aR_numbers]))]) (stk := [.int x39, .long ((31 : Int64) * x38)]) (rest := [.long ((31 : Int64) * x38)]) (As := [.ref aN_tolds, .int x32]) C hE hW (c_Ld_rowOf l G aN_tolds 3 N_tolds x32 hc40) cv_Ld_rowOf tw805 hl rfl rfl (Nat.le_of_ble_eq_true rfl) ⟨Nat.le_of_ble_eq_true rfl, Nat.le_of_ble_eq_true rfl⟩ ⟨Nat.zero_le _, Nat.zero_le _⟩ [4] [0, 1, 2, 3, 5, 6, 7, 8, 9, 10, 11, 12] [0, 1, 2, 3, 12, 4, 5, 6, 7, 8, 9, 10, 11] rfl rfl rfl (by decide) rfl rfl rfl rfl d_Ai_digest_103 (fun H locs hW => ?_)
        refine lv_i2l C.1.1 C.1.2.1 d_Ai_digest_106 rfl ?_
        refine lv_ladd C.1.1 C.1.2.1 d_Ai_digest_107 ?_
        refine lv_topl (fun x41 ex41 => ?_)
        replace h := lt_at ex41 h
        refine lv_lstore_n (lv' := [(1, .long x41), (0, .ref aA), (3, .int x32)]) C.1.1 C.1.2.1 d_Ai_digest_108 rfl hl (by decide) rfl (fun ls hl => ?_)
        obtain ⟨x42, ex42⟩ : ∃ y : Int32, y = x32 + 1 := ⟨_, rfl⟩
        replace h := lt_at ex42 h
        refine lv_iinc (v := x42) (lv' := [(3, .int x42), (1, .long x41), (0, .ref aA)]) C.1.1 C.1.2.1 d_Ai_digest_109 hl (k := 2) rfl (by rw [ex42]; rfl) (by decide) rfl (fun ls hl => ?_)
        refine lv_goto (tgt := 33) C.1.1 C.1.2.1 d_Ai_digest_112 (by decide) ?_
        exact ih33 _ h _ _ _ hW (lv_sub hl [2, 1, 0] rfl)
  · intro J31 hJ31 h
    refine lp_at (P := fun ((x43, x44) : Int64 × Int32) => ∀ (H : Heap) (locs : List Loc) (ls : Array Slot), Wd G A s.heap H locs [(aA, .inr (3, [.ref aN, .ref A_draft, .ref aA_images, .ref aA_kept, .ref A_sound, .ref aR, .ref aA_refused, .ref aA_heardBy])), (aN, .inr (0, [.int N_width, .int N_height, .long N_everywhere, .long N_firstColumn, .long N_lastColumn, .ref aN_grounds, .ref aN_airs, .ref aN_tolds, .ref aN_fees, .ref aN_lets, .int N_makers, .ref aN_kinds, .ref aN_cells, .ref aN_selves, .ref aN_cries, .int N_leaves, .ref aN_parts, .int N_pasts, .ref aN_past])), (aN_grounds, .inl (gJ G, 3, .inr (.inl N_grounds))), (aN_airs, .inl (gJ G, 6, .inr (.inl N_airs))), (aN_tolds, .inl (gJ G, 3, .inr (.inl N_tolds))), (aN_fees, .inl (gI G, 6, .inl N_fees)), (aN_lets, .inl (gI G, 6, .inl N_lets)), (aN_kinds, .inl (gI G, 6, .inl N_kinds)), (aN_cells, .inl (gI G, 6, .inl N_cells)), (aN_selves, .inl (gI G, 6, .inl N_selves)), (aN_cries, .inl (gI G, 6, .inl N_cries)), (aN_parts, .inl (gI G, 40, .inl N_parts)), (aR, .inr (1, [.ref aR_text, .int R_length, .ref R_land, .int R_place, .int R_end, .int R_token, .ref aR_numbers]))] → lv_has ls 5 [(0, .ref aA), (1, .long x43), (3, .int x44)] → W p l e (RM 2 44) s m args below meth c H locs 0 0 Q (F0 m 6 ls [])) ?_ FU _ h _ _ _ hW (lv_sub hl [2, 1, 0] rfl)
    clear h hl hW
    intro rec6 ih6
    intro x h
    obtain ⟨x43, x44⟩ := x
    unfold f_Ai_digest_L6 at h
    intro H locs ls hW hl
    refine lv_iload_n C.1.1 C.1.2.1 d_Ai_digest_6 rfl (lv_at hl 2 rfl) ?_
    refine lv_bipush (v := 6) C.1.1 C.1.2.1 d_Ai_digest_7 (by decide) ?_
    refine lv_icmp_ge (tgt := 31) C.1.1 C.1.2.1 d_Ai_digest_9 (by decide) (fun cc => ?_) (fun cc => ?_)
    · replace h := it_t cc h
      exact hJ31 _ h _ _ _ hW (lv_sub hl [0, 1] rfl)
    · replace h := it_f cc h
      refine lv_ldc2 (own := "LentAir") (v := 31) C.1.1 C.1.2.1 C.1.2.2.2.1 (C.w tw804) d_Ai_digest_12 ?_
      refine lv_lload_n C.1.1 C.1.2.1 d_Ai_digest_15 rfl (lv_at hl 1 rfl) ?_
      refine lv_lmul C.1.1 C.1.2.1 d_Ai_digest_16 ?_
      refine lv_aload_n C.1.1 C.1.2.1 d_Ai_digest_17 rfl (lv_at hl 0 rfl) ?_
      refine lv_iload_n C.1.1 C.1.2.1 d_Ai_digest_18 rfl (lv_at hl 2 rfl) ?_
      obtain ⟨x45, hc46, h⟩ := bd_at h
      refine x_callV (ws' := [(aA, .inr (3, [.ref aN, .ref A_draft, .ref aA_images, .ref aA_kept, .ref A_sound, .ref aR, .ref aA_refused, .ref aA_heardBy])), (aN, .inr (0, [.int N_width, .int N_height, .long N_everywhere, .long N_firstColumn, .long N_lastColumn, .ref aN_grounds, .ref aN_airs, .ref aN_tolds, .ref aN_fees, .ref aN_lets, .int N_makers, .ref aN_kinds, .ref aN_cells, .ref aN_selves, .ref aN_cries, .int N_leaves, .ref aN_parts, .int N_pasts, .ref aN_past])), (aN_grounds, .inl (gJ G, 3, .inr (.inl N_grounds))), (aN_airs, .inl (gJ G, 6, .inr (.inl N_airs))), (aN_tolds, .inl (gJ G, 3, .inr (.inl N_tolds))), (aN_fees, .inl (gI G, 6, .inl N_fees)), (aN_lets, .inl (gI G, 6, .inl N_lets)), (aN_kinds, .inl (gI G, 6, .inl N_kinds)), (aN_cells, .inl (gI G, 6, .inl N_cells)), (aN_selves, .inl (gI G, 6, .inl N_selves)), (aN_cries, .inl (gI G, 6, .inl N_cries)), (aN_parts, .inl (gI G, 40, .inl N_parts)), (aR, .inr (1, [.ref aR_text, .int R_length, .ref R_land, .int R_place, .int R_end, .int R_token, .ref aR_numbers]))]) (stk := [.int x45, .long ((31 : Int64) * x43)]) (rest := [.long ((31 : Int64) * x43)]) (As := [.int x44]) (q0 := 0) C hE hW (c_Ai_countOf l G aA aA_images aA_kept aA_refused aA_heardBy aN aN_grounds aN_airs aN_tolds aN_fees aN_lets aN_kinds aN_cells aN_selves aN_cries aN_parts aN_past aR aR_text aR_numbers A_draft A_sound N_width N_height N_everywhere N_firstColumn N_lastColumn N_makers N_leaves N_pasts R_length R_land R_place R_end R_token x44 hc46) cv_Ai_countOf tw795 hl rfl rfl (Nat.le_of_ble_eq_true rfl) rfl rfl rfl ⟨Nat.le_of_ble_eq_true rfl, Nat.le_of_ble_eq_true rfl⟩ ⟨Nat.zero_le _, Nat.zero_le _⟩ [0, 1, 12] [2, 3, 4, 5, 6, 7, 8, 9, 10, 11] [10, 11, 0, 1, 2, 3, 4, 5, 6, 7, 8, 9, 12] rfl rfl rfl (by decide) rfl rfl rfl rfl d_Ai_digest_19 (fun H locs hW => ?_)
      refine lv_i2l C.1.1 C.1.2.1 d_Ai_digest_22 rfl ?_
      refine lv_ladd C.1.1 C.1.2.1 d_Ai_digest_23 ?_
      refine lv_topl (fun x47 ex47 => ?_)
      replace h := lt_at ex47 h
      refine lv_lstore_n (lv' := [(1, .long x47), (0, .ref aA), (3, .int x44)]) C.1.1 C.1.2.1 d_Ai_digest_24 rfl hl (by decide) rfl (fun ls hl => ?_)
      obtain ⟨x48, ex48⟩ : ∃ y : Int32, y = x44 + 1 := ⟨_, rfl⟩
      replace h := lt_at ex48 h
      refine lv_iinc (v := x48) (lv' := [(3, .int x48), (1, .long x47), (0, .ref aA)]) C.1.1 C.1.2.1 d_Ai_digest_25 hl (k := 2) rfl (by rw [ex48]; rfl) (by decide) rfl (fun ls hl => ?_)
      refine lv_goto (tgt := 6) C.1.1 C.1.2.1 d_Ai_digest_28 (by decide) ?_
      exact ih6 _ h _ _ _ hW (lv_sub hl [2, 1, 0] rfl)

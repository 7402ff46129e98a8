set_option maxHeartbeats 4000000 in
set_option maxRecDepth 100000 in
theorem c_Rd_append (l : Launch) (G : Gl) (aR : Nat) (aR_text : Nat) (aR_numbers : Nat) (R_length : Int32) (R_land : Nat) (R_place : Int32) (R_end : Int32) (R_token : Int32) (R_text : Nat → Int32) (p1 : Int32) {res : Int32 × (Nat → Int32) × Int32} (h : f_Rd_append R_length R_text p1 = some res) : Ct l y_Rd_append b_Rd_append 2 (some .boolean) 0 0 G [.ref aR, .int p1] [(aR, .inr (1, [.ref aR_text, .int R_length, .ref R_land, .int R_place, .int R_end, .int R_token, .ref aR_numbers])), (aR_text, .inl (gB G, 150, .inl R_text))] (some (.int res.1)) [(aR, .inr (1, [.ref aR_text, .int (res.2.2), .ref R_land, .int R_place, .int R_end, .int R_token, .ref aR_numbers])), (aR_text, .inl (gB G, 150, .inl (res.2.1)))] := by
  refine Ct.mk (by decide) (Nat.le_of_ble_eq_true rfl) ?_
  intro p e s m args below meth c ls A Q C hE hW hl hQ
  have C : Cx p s args m c meth "LentAir$Reader" y_Rd_append b_Rd_append 2 (some .boolean) := C
  have hl : lv_has ls 2 [(0, .ref aR), (1, .int p1)] := hl
  unfold f_Rd_append at h
  refine lv_aload_n C.1.1 C.1.2.1 d_Rd_append_0 rfl (lv_at hl 0 rfl) ?_
  refine x_get C hE hW fl_Rd_23 0 rfl rfl d_Rd_append_1 ?_
  refine lv_if_lt (tgt := 17) C.1.1 C.1.2.1 d_Rd_append_4 (by decide) (fun cc => ?_) (fun cc => ?_)
  · replace h := it_t cc h
    refine lv_iconst (v := 0) C.1.1 C.1.2.1 d_Rd_append_17 (by decide) ?_
    obtain rfl := Option.some.inj h
    exact x_zret C hW rfl rfl rfl hQ d_Rd_append_18
  · replace h := it_f cc h
    refine lv_aload_n C.1.1 C.1.2.1 d_Rd_append_7 rfl (lv_at hl 0 rfl) ?_
    refine x_get C hE hW fl_Rd_23 0 rfl rfl d_Rd_append_8 ?_
    refine lv_sipush (v := 150) C.1.1 C.1.2.1 d_Rd_append_11 (by decide) ?_
    refine lv_icmp_lt (tgt := 19) C.1.1 C.1.2.1 d_Rd_append_14 (by decide) (fun cc => ?_) (fun cc => ?_)
    · replace h := it_t cc h
      refine lv_aload_n C.1.1 C.1.2.1 d_Rd_append_19 rfl (lv_at hl 0 rfl) ?_
      refine x_get C hE hW fl_Rd_9 0 rfl rfl d_Rd_append_20 ?_
      refine lv_aload_n C.1.1 C.1.2.1 d_Rd_append_23 rfl (lv_at hl 0 rfl) ?_
      refine x_get C hE hW fl_Rd_23 0 rfl rfl d_Rd_append_24 ?_
      refine lv_iload_n C.1.1 C.1.2.1 d_Rd_append_27 rfl (lv_at hl 1 rfl) ?_
      refine lv_i2b C.1.1 C.1.2.1 d_Rd_append_28 rfl ?_
      obtain ⟨hg, h⟩ := gd_at h
      obtain ⟨x1, ex1⟩ : ∃ y : Nat → Int32, y = upd R_text R_length.toNatClampNeg p1.toInt8.toInt32 := ⟨_, rfl⟩
      replace h := lt_at ex1 h
      refine x_bast (ws' := [(aR, .inr (1, [.ref aR_text, .int R_length, .ref R_land, .int R_place, .int R_end, .int R_token, .ref aR_numbers])), (aR_text, .inl (gB G, 150, .inl x1))]) C hE hW 1 rfl (inB_in hg) (pk_vb _) (by subst ex1; rfl) d_Rd_append_29 (fun H locs hW => ?_)
      refine lv_aload_n C.1.1 C.1.2.1 d_Rd_append_30 rfl (lv_at hl 0 rfl) ?_
      refine lv_dup C.1.1 C.1.2.1 d_Rd_append_31 rfl ?_
      refine x_get C hE hW fl_Rd_23 0 rfl rfl d_Rd_append_32 ?_
      refine lv_iconst (v := 1) C.1.1 C.1.2.1 d_Rd_append_35 (by decide) ?_
      refine lv_iadd C.1.1 C.1.2.1 d_Rd_append_36 ?_
      refine lv_topi (fun x2 ex2 => ?_)
      replace h := lt_at ex2 h
      refine x_put (ws' := [(aR, .inr (1, [.ref aR_text, .int x2, .ref R_land, .int R_place, .int R_end, .int R_token, .ref aR_numbers])), (aR_text, .inl (gB G, 150, .inl x1))]) C hE hW fp_Rd_23 0 rfl rfl rfl (Nat.le_of_ble_eq_true rfl) rfl d_Rd_append_37 (fun H locs hW => ?_)
      refine lv_iconst (v := 1) C.1.1 C.1.2.1 d_Rd_append_40 (by decide) ?_
      obtain rfl := Option.some.inj h
      exact x_zret C hW rfl rfl rfl hQ d_Rd_append_41
    · replace h := it_f cc h
      refine lv_iconst (v := 0) C.1.1 C.1.2.1 d_Rd_append_17 (by decide) ?_
      obtain rfl := Option.some.inj h
      exact x_zret C hW rfl rfl rfl hQ d_Rd_append_18
set_option maxHeartbeats 4000000 in
set_option maxRecDepth 100000 in
theorem c_Rd_empty (l : Launch) (G : Gl) (aR : Nat) (aR_text : Nat) (aR_numbers : Nat) (R_length : Int32) (R_land : Nat) (R_place : Int32) (R_end : Int32) (R_token : Int32) {res : Int32 × Int32} (h : f_Rd_empty R_length = some res) : Ct l y_Rd_empty b_Rd_empty 2 (some .int) 0 0 G [.ref aR] [(aR, .inr (1, [.ref aR_text, .int R_length, .ref R_land, .int R_place, .int R_end, .int R_token, .ref aR_numbers]))] (some (.int res.1)) [(aR, .inr (1, [.ref aR_text, .int (res.2), .ref R_land, .int R_place, .int R_end, .int R_token, .ref aR_numbers]))] := by
  refine Ct.mk (by decide) (Nat.le_of_ble_eq_true rfl) ?_
  intro p e s m args below meth c ls A Q C hE hW hl hQ
  have C : Cx p s args m c meth "LentAir$Reader" y_Rd_empty b_Rd_empty 2 (some .int) := C
  have hl : lv_has ls 2 [(0, .ref aR)] := hl
  unfold f_Rd_empty at h
  refine lv_aload_n C.1.1 C.1.2.1 d_Rd_empty_0 rfl (lv_at hl 0 rfl) ?_
  refine x_get C hE hW fl_Rd_23 0 rfl rfl d_Rd_empty_1 ?_
  refine lv_istore_n (lv' := [(1, .int R_length), (0, .ref aR)]) C.1.1 C.1.2.1 d_Rd_empty_4 rfl hl (by decide) rfl (fun ls hl => ?_)
  refine lv_aload_n C.1.1 C.1.2.1 d_Rd_empty_5 rfl (lv_at hl 1 rfl) ?_
  refine lv_iconst (v := 0) C.1.1 C.1.2.1 d_Rd_empty_6 (by decide) ?_
  refine x_put (ws' := [(aR, .inr (1, [.ref aR_text, .int 0, .ref R_land, .int R_place, .int R_end, .int R_token, .ref aR_numbers]))]) C hE hW fp_Rd_23 0 rfl rfl rfl (Nat.le_of_ble_eq_true rfl) rfl d_Rd_empty_7 (fun H locs hW => ?_)
  refine lv_iload_n C.1.1 C.1.2.1 d_Rd_empty_10 rfl (lv_at hl 0 rfl) ?_
  obtain rfl := Option.some.inj h
  exact x_iret C hW rfl rfl hQ d_Rd_empty_11
set_option maxHeartbeats 4000000 in
set_option maxRecDepth 100000 in
theorem c_Rd_at (l : Launch) (G : Gl) (aR : Nat) (aR_text : Nat) (aR_numbers : Nat) (R_length : Int32) (R_land : Nat) (R_place : Int32) (R_end : Int32) (R_token : Int32) (R_text : Nat → Int32) (p1 : Int32) {res : Int32} (h : f_Rd_at R_length R_text p1 = some res) : Ct l y_Rd_at b_Rd_at 2 (some .int) 0 0 G [.ref aR, .int p1] [(aR, .inr (1, [.ref aR_text, .int R_length, .ref R_land, .int R_place, .int R_end, .int R_token, .ref aR_numbers])), (aR_text, .inl (gB G, 150, .inl R_text))] (some (.int res)) [(aR, .inr (1, [.ref aR_text, .int R_length, .ref R_land, .int R_place, .int R_end, .int R_token, .ref aR_numbers])), (aR_text, .inl (gB G, 150, .inl R_text))] := by
  refine Ct.mk (by decide) (Nat.le_of_ble_eq_true rfl) ?_
  intro p e s m args below meth c ls A Q C hE hW hl hQ
  have C : Cx p s args m c meth "LentAir$Reader" y_Rd_at b_Rd_at 2 (some .int) := C
  have hl : lv_has ls 2 [(0, .ref aR), (1, .int p1)] := hl
  unfold f_Rd_at at h
  refine lv_iload_n C.1.1 C.1.2.1 d_Rd_at_0 rfl (lv_at hl 1 rfl) ?_
  refine lv_if_lt (tgt := 28) C.1.1 C.1.2.1 d_Rd_at_1 (by decide) (fun cc => ?_) (fun cc => ?_)
  · replace h := it_t cc h
    refine lv_iconst (v := (-1)) C.1.1 C.1.2.1 d_Rd_at_28 (by decide) ?_
    obtain rfl := Option.some.inj h
    exact x_iret C hW rfl rfl hQ d_Rd_at_29
  · replace h := it_f cc h
    refine lv_iload_n C.1.1 C.1.2.1 d_Rd_at_4 rfl (lv_at hl 1 rfl) ?_
    refine lv_aload_n C.1.1 C.1.2.1 d_Rd_at_5 rfl (lv_at hl 0 rfl) ?_
    refine x_get C hE hW fl_Rd_23 0 rfl rfl d_Rd_at_6 ?_
    refine lv_icmp_ge (tgt := 28) C.1.1 C.1.2.1 d_Rd_at_9 (by decide) (fun cc => ?_) (fun cc => ?_)
    · replace h := it_t cc h
      refine lv_iconst (v := (-1)) C.1.1 C.1.2.1 d_Rd_at_28 (by decide) ?_
      obtain rfl := Option.some.inj h
      exact x_iret C hW rfl rfl hQ d_Rd_at_29
    · replace h := it_f cc h
      refine lv_iload_n C.1.1 C.1.2.1 d_Rd_at_12 rfl (lv_at hl 1 rfl) ?_
      refine lv_sipush (v := 150) C.1.1 C.1.2.1 d_Rd_at_13 (by decide) ?_
      refine lv_icmp_ge (tgt := 28) C.1.1 C.1.2.1 d_Rd_at_16 (by decide) (fun cc => ?_) (fun cc => ?_)
      · replace h := it_t cc h
        refine lv_iconst (v := (-1)) C.1.1 C.1.2.1 d_Rd_at_28 (by decide) ?_
        obtain rfl := Option.some.inj h
        exact x_iret C hW rfl rfl hQ d_Rd_at_29
      · replace h := it_f cc h
        refine lv_aload_n C.1.1 C.1.2.1 d_Rd_at_19 rfl (lv_at hl 0 rfl) ?_
        refine x_get C hE hW fl_Rd_9 0 rfl rfl d_Rd_at_20 ?_
        refine lv_iload_n C.1.1 C.1.2.1 d_Rd_at_23 rfl (lv_at hl 1 rfl) ?_
        obtain ⟨hg, h⟩ := gd_at h
        refine x_bald C hE hW 1 rfl (inB_in hg) d_Rd_at_24 ?_
        refine lv_goto (tgt := 29) C.1.1 C.1.2.1 d_Rd_at_25 (by decide) ?_
        obtain rfl := Option.some.inj h
        exact x_iret C hW rfl rfl hQ d_Rd_at_29
set_option maxHeartbeats 4000000 in
set_option maxRecDepth 100000 in
theorem c_Rd_isLetter (l : Launch) (G : Gl) (p1 : Int32) {res : Int32} (h : f_Rd_isLetter p1 = some res) : Ct l y_Rd_isLetter b_Rd_isLetter 1 (some .boolean) 0 0 G [.int p1] [] (some (.int res)) [] := by
  refine Ct.mk (by decide) (Nat.le_of_ble_eq_true rfl) ?_
  intro p e s m args below meth c ls A Q C hE hW hl hQ
  have C : Cx p s args m c meth "LentAir$Reader" y_Rd_isLetter b_Rd_isLetter 1 (some .boolean) := C
  have hl : lv_has ls 1 [(0, .int p1)] := hl
  unfold f_Rd_isLetter at h
  refine lv_iload_n C.1.1 C.1.2.1 d_Rd_isLetter_0 rfl (lv_at hl 0 rfl) ?_
  refine lv_bipush (v := 97) C.1.1 C.1.2.1 d_Rd_isLetter_1 (by decide) ?_
  refine lv_icmp_lt (tgt := 16) C.1.1 C.1.2.1 d_Rd_isLetter_3 (by decide) (fun cc => ?_) (fun cc => ?_)
  · replace h := it_t cc h
    refine lv_iconst (v := 0) C.1.1 C.1.2.1 d_Rd_isLetter_16 (by decide) ?_
    obtain rfl := Option.some.inj h
    exact x_zret C hW rfl rfl rfl hQ d_Rd_isLetter_17
  · replace h := it_f cc h
    refine lv_iload_n C.1.1 C.1.2.1 d_Rd_isLetter_6 rfl (lv_at hl 0 rfl) ?_
    refine lv_bipush (v := 122) C.1.1 C.1.2.1 d_Rd_isLetter_7 (by decide) ?_
    refine lv_icmp_gt (tgt := 16) C.1.1 C.1.2.1 d_Rd_isLetter_9 (by decide) (fun cc => ?_) (fun cc => ?_)
    · replace h := it_t cc h
      refine lv_iconst (v := 0) C.1.1 C.1.2.1 d_Rd_isLetter_16 (by decide) ?_
      obtain rfl := Option.some.inj h
      exact x_zret C hW rfl rfl rfl hQ d_Rd_isLetter_17
    · replace h := it_f cc h
      refine lv_iconst (v := 1) C.1.1 C.1.2.1 d_Rd_isLetter_12 (by decide) ?_
      refine lv_goto (tgt := 17) C.1.1 C.1.2.1 d_Rd_isLetter_13 (by decide) ?_
      obtain rfl := Option.some.inj h
      exact x_zret C hW rfl rfl rfl hQ d_Rd_isLetter_17
set_option maxHeartbeats 4000000 in
set_option maxRecDepth 100000 in
theorem c_Rd_isFigure (l : Launch) (G : Gl) (p1 : Int32) {res : Int32} (h : f_Rd_isFigure p1 = some res) : Ct l y_Rd_isFigure b_Rd_isFigure 1 (some .boolean) 0 0 G [.int p1] [] (some (.int res)) [] := by
  refine Ct.mk (by decide) (Nat.le_of_ble_eq_true rfl) ?_
  intro p e s m args below meth c ls A Q C hE hW hl hQ
  have C : Cx p s args m c meth "LentAir$Reader" y_Rd_isFigure b_Rd_isFigure 1 (some .boolean) := C
  have hl : lv_has ls 1 [(0, .int p1)] := hl
  unfold f_Rd_isFigure at h
  refine lv_iload_n C.1.1 C.1.2.1 d_Rd_isFigure_0 rfl (lv_at hl 0 rfl) ?_
  refine lv_bipush (v := 48) C.1.1 C.1.2.1 d_Rd_isFigure_1 (by decide) ?_
  refine lv_icmp_lt (tgt := 16) C.1.1 C.1.2.1 d_Rd_isFigure_3 (by decide) (fun cc => ?_) (fun cc => ?_)
  · replace h := it_t cc h
    refine lv_iconst (v := 0) C.1.1 C.1.2.1 d_Rd_isFigure_16 (by decide) ?_
    obtain rfl := Option.some.inj h
    exact x_zret C hW rfl rfl rfl hQ d_Rd_isFigure_17
  · replace h := it_f cc h
    refine lv_iload_n C.1.1 C.1.2.1 d_Rd_isFigure_6 rfl (lv_at hl 0 rfl) ?_
    refine lv_bipush (v := 57) C.1.1 C.1.2.1 d_Rd_isFigure_7 (by decide) ?_
    refine lv_icmp_gt (tgt := 16) C.1.1 C.1.2.1 d_Rd_isFigure_9 (by decide) (fun cc => ?_) (fun cc => ?_)
    · replace h := it_t cc h
      refine lv_iconst (v := 0) C.1.1 C.1.2.1 d_Rd_isFigure_16 (by decide) ?_
      obtain rfl := Option.some.inj h
      exact x_zret C hW rfl rfl rfl hQ d_Rd_isFigure_17
    · replace h := it_f cc h
      refine lv_iconst (v := 1) C.1.1 C.1.2.1 d_Rd_isFigure_12 (by decide) ?_
      refine lv_goto (tgt := 17) C.1.1 C.1.2.1 d_Rd_isFigure_13 (by decide) ?_
      obtain rfl := Option.some.inj h
      exact x_zret C hW rfl rfl rfl hQ d_Rd_isFigure_17
set_option maxHeartbeats 4000000 in
set_option maxRecDepth 100000 in
theorem c_Rd_nextToken (l : Launch) (G : Gl) (aR : Nat) (aR_text : Nat) (aR_numbers : Nat) (R_length : Int32) (R_land : Nat) (R_place : Int32) (R_end : Int32) (R_token : Int32) (R_text : Nat → Int32) {res : Int32 × Int32 × Int32} (h : f_Rd_nextToken R_length R_end R_text = some res) : Ct l y_Rd_nextToken b_Rd_nextToken 1 none 1 21 G [.ref aR] [(aR, .inr (1, [.ref aR_text, .int R_length, .ref R_land, .int R_place, .int R_end, .int R_token, .ref aR_numbers])), (aR_text, .inl (gB G, 150, .inl R_text))] none [(aR, .inr (1, [.ref aR_text, .int R_length, .ref R_land, .int (res.1), .int (res.2.1), .int (res.2.2), .ref aR_numbers])), (aR_text, .inl (gB G, 150, .inl R_text))] := by
  refine Ct.mk (by decide) (Nat.le_of_ble_eq_true rfl) ?_
  intro p e s m args below meth c ls A Q C hE hW hl hQ
  have C : Cx p s args m c meth "LentAir$Reader" y_Rd_nextToken b_Rd_nextToken 1 none := C
  have hl : lv_has ls 1 [(0, .ref aR)] := hl
  unfold f_Rd_nextToken at h
  refine lv_aload_n C.1.1 C.1.2.1 d_Rd_nextToken_0 rfl (lv_at hl 0 rfl) ?_
  refine lv_aload_n C.1.1 C.1.2.1 d_Rd_nextToken_1 rfl (lv_at hl 0 rfl) ?_
  refine x_get C hE hW fl_Rd_27 0 rfl rfl d_Rd_nextToken_2 ?_
  refine x_put (ws' := [(aR, .inr (1, [.ref aR_text, .int R_length, .ref R_land, .int R_end, .int R_end, .int R_token, .ref aR_numbers])), (aR_text, .inl (gB G, 150, .inl R_text))]) C hE hW fp_Rd_40 0 rfl rfl rfl (Nat.le_of_ble_eq_true rfl) rfl d_Rd_nextToken_5 (fun H locs hW => ?_)
  refine jn_at (P := fun (x1 : Int32) => ∀ (H : Heap) (locs : List Loc) (ls : Array Slot), Wd G A s.heap H locs [(aR, .inr (1, [.ref aR_text, .int R_length, .ref R_land, .int x1, .int R_end, .int R_token, .ref aR_numbers])), (aR_text, .inl (gB G, 150, .inl R_text))] → lv_has ls 1 [(0, .ref aR)] → W p l e (RM 1 21) s m args below meth c H locs 0 0 Q (F0 m 45 ls [])) h ?_ ?_
  · skip
    intro x1 h
    intro H locs ls hW hl
    refine lv_aload_n C.1.1 C.1.2.1 d_Rd_nextToken_45 rfl (lv_at hl 0 rfl) ?_
    refine lv_aload_n C.1.1 C.1.2.1 d_Rd_nextToken_46 rfl (lv_at hl 0 rfl) ?_
    refine x_get C hE hW fl_Rd_40 0 rfl rfl d_Rd_nextToken_47 ?_
    refine x_put (ws' := [(aR, .inr (1, [.ref aR_text, .int R_length, .ref R_land, .int x1, .int x1, .int R_token, .ref aR_numbers])), (aR_text, .inl (gB G, 150, .inl R_text))]) C hE hW fp_Rd_27 0 rfl rfl rfl (Nat.le_of_ble_eq_true rfl) rfl d_Rd_nextToken_50 (fun H locs hW => ?_)
    refine lv_aload_n C.1.1 C.1.2.1 d_Rd_nextToken_53 rfl (lv_at hl 0 rfl) ?_
    refine x_get C hE hW fl_Rd_40 0 rfl rfl d_Rd_nextToken_54 ?_
    refine lv_aload_n C.1.1 C.1.2.1 d_Rd_nextToken_57 rfl (lv_at hl 0 rfl) ?_
    refine x_get C hE hW fl_Rd_23 0 rfl rfl d_Rd_nextToken_58 ?_
    refine lv_icmp_lt (tgt := 72) C.1.1 C.1.2.1 d_Rd_nextToken_61 (by decide) (fun cc => ?_) (fun cc => ?_)
    · replace h := it_t cc h
      refine lv_aload_n C.1.1 C.1.2.1 d_Rd_nextToken_72 rfl (lv_at hl 0 rfl) ?_
      refine lv_aload_n C.1.1 C.1.2.1 d_Rd_nextToken_73 rfl (lv_at hl 0 rfl) ?_
      refine x_get C hE hW fl_Rd_40 0 rfl rfl d_Rd_nextToken_74 ?_
      obtain ⟨x2, hc3, h⟩ := bd_at h
      refine x_callV (ws' := [(aR, .inr (1, [.ref aR_text, .int R_length, .ref R_land, .int x1, .int x1, .int R_token, .ref aR_numbers])), (aR_text, .inl (gB G, 150, .inl R_text))]) (stk := [.int x2]) (rest := []) (As := [.int x1]) (q0 := 0) C hE hW (c_Rd_at l G aR aR_text aR_numbers R_length R_land x1 x1 R_token R_text x1 hc3) cv_Rd_at tw435 hl rfl rfl (Nat.le_of_ble_eq_true rfl) rfl rfl rfl ⟨Nat.le_of_ble_eq_true rfl, Nat.le_of_ble_eq_true rfl⟩ ⟨Nat.zero_le _, Nat.zero_le _⟩ [0, 1] [] [0, 1] rfl rfl rfl (by decide) rfl rfl rfl rfl d_Rd_nextToken_77 (fun H locs hW => ?_)
      obtain ⟨x4, hc5, h⟩ := bd_at h
      refine x_callS (ws' := [(aR, .inr (1, [.ref aR_text, .int R_length, .ref R_land, .int x1, .int x1, .int R_token, .ref aR_numbers])), (aR_text, .inl (gB G, 150, .inl R_text))]) (stk := [.int x4]) (rest := []) (As := [.int x2]) C hE hW (c_Rd_isLetter l G x2 hc5) cv_Rd_isLetter tw439 hl rfl rfl (Nat.le_of_ble_eq_true rfl) ⟨Nat.le_of_ble_eq_true rfl, Nat.le_of_ble_eq_true rfl⟩ ⟨Nat.zero_le _, Nat.zero_le _⟩ [] [0, 1] [0, 1] rfl rfl rfl (by decide) rfl rfl rfl rfl d_Rd_nextToken_80 (fun H locs hW => ?_)
      refine lv_if_eq (tgt := 132) C.1.1 C.1.2.1 d_Rd_nextToken_83 (by decide) (fun cc => ?_) (fun cc => ?_)
      · replace h := it_t cc h
        refine lv_aload_n C.1.1 C.1.2.1 d_Rd_nextToken_132 rfl (lv_at hl 0 rfl) ?_
        refine lv_aload_n C.1.1 C.1.2.1 d_Rd_nextToken_133 rfl (lv_at hl 0 rfl) ?_
        refine x_get C hE hW fl_Rd_40 0 rfl rfl d_Rd_nextToken_134 ?_
        obtain ⟨x6, hc7, h⟩ := bd_at h
        refine x_callV (ws' := [(aR, .inr (1, [.ref aR_text, .int R_length, .ref R_land, .int x1, .int x1, .int R_token, .ref aR_numbers])), (aR_text, .inl (gB G, 150, .inl R_text))]) (stk := [.int x6]) (rest := []) (As := [.int x1]) (q0 := 0) C hE hW (c_Rd_at l G aR aR_text aR_numbers R_length R_land x1 x1 R_token R_text x1 hc7) cv_Rd_at tw435 hl rfl rfl (Nat.le_of_ble_eq_true rfl) rfl rfl rfl ⟨Nat.le_of_ble_eq_true rfl, Nat.le_of_ble_eq_true rfl⟩ ⟨Nat.zero_le _, Nat.zero_le _⟩ [0, 1] [] [0, 1] rfl rfl rfl (by decide) rfl rfl rfl rfl d_Rd_nextToken_137 (fun H locs hW => ?_)
        obtain ⟨x8, hc9, h⟩ := bd_at h
        refine x_callS (ws' := [(aR, .inr (1, [.ref aR_text, .int R_length, .ref R_land, .int x1, .int x1, .int R_token, .ref aR_numbers])), (aR_text, .inl (gB G, 150, .inl R_text))]) (stk := [.int x8]) (rest := []) (As := [.int x6]) C hE hW (c_Rd_isFigure l G x6 hc9) cv_Rd_isFigure tw442 hl rfl rfl (Nat.le_of_ble_eq_true rfl) ⟨Nat.le_of_ble_eq_true rfl, Nat.le_of_ble_eq_true rfl⟩ ⟨Nat.zero_le _, Nat.zero_le _⟩ [] [0, 1] [0, 1] rfl rfl rfl (by decide) rfl rfl rfl rfl d_Rd_nextToken_140 (fun H locs hW => ?_)
        refine lv_if_eq (tgt := 209) C.1.1 C.1.2.1 d_Rd_nextToken_143 (by decide) (fun cc => ?_) (fun cc => ?_)
        · replace h := it_t cc h
          refine lv_aload_n C.1.1 C.1.2.1 d_Rd_nextToken_209 rfl (lv_at hl 0 rfl) ?_
          refine lv_dup C.1.1 C.1.2.1 d_Rd_nextToken_210 rfl ?_
          refine x_get C hE hW fl_Rd_27 0 rfl rfl d_Rd_nextToken_211 ?_
          refine lv_iconst (v := 1) C.1.1 C.1.2.1 d_Rd_nextToken_214 (by decide) ?_
          refine lv_iadd C.1.1 C.1.2.1 d_Rd_nextToken_215 ?_
          refine lv_topi (fun x10 ex10 => ?_)
          replace h := lt_at ex10 h
          refine x_put (ws' := [(aR, .inr (1, [.ref aR_text, .int R_length, .ref R_land, .int x1, .int x10, .int R_token, .ref aR_numbers])), (aR_text, .inl (gB G, 150, .inl R_text))]) C hE hW fp_Rd_27 0 rfl rfl rfl (Nat.le_of_ble_eq_true rfl) rfl d_Rd_nextToken_216 (fun H locs hW => ?_)
          refine lv_aload_n C.1.1 C.1.2.1 d_Rd_nextToken_219 rfl (lv_at hl 0 rfl) ?_
          refine lv_aload_n C.1.1 C.1.2.1 d_Rd_nextToken_220 rfl (lv_at hl 0 rfl) ?_
          refine lv_aload_n C.1.1 C.1.2.1 d_Rd_nextToken_221 rfl (lv_at hl 0 rfl) ?_
          refine x_get C hE hW fl_Rd_40 0 rfl rfl d_Rd_nextToken_222 ?_
          obtain ⟨x11, hc12, h⟩ := bd_at h
          refine x_callV (ws' := [(aR, .inr (1, [.ref aR_text, .int R_length, .ref R_land, .int x1, .int x10, .int R_token, .ref aR_numbers])), (aR_text, .inl (gB G, 150, .inl R_text))]) (stk := [.int x11, .ref aR]) (rest := [.ref aR]) (As := [.int x1]) (q0 := 0) C hE hW (c_Rd_at l G aR aR_text aR_numbers R_length R_land x1 x10 R_token R_text x1 hc12) cv_Rd_at tw435 hl rfl rfl (Nat.le_of_ble_eq_true rfl) rfl rfl rfl ⟨Nat.le_of_ble_eq_true rfl, Nat.le_of_ble_eq_true rfl⟩ ⟨Nat.zero_le _, Nat.zero_le _⟩ [0, 1] [] [0, 1] rfl rfl rfl (by decide) rfl rfl rfl rfl d_Rd_nextToken_225 (fun H locs hW => ?_)
          refine lv_bipush (v := 59) C.1.1 C.1.2.1 d_Rd_nextToken_228 (by decide) ?_
          refine jn_at (P := fun (x13 : Int32) => ∀ (H : Heap) (locs : List Loc) (ls : Array Slot), Wd G A s.heap H locs [(aR, .inr (1, [.ref aR_text, .int R_length, .ref R_land, .int x1, .int x10, .int R_token, .ref aR_numbers])), (aR_text, .inl (gB G, 150, .inl R_text))] → lv_has ls 1 [] → W p l e (RM 1 21) s m args below meth c H locs 0 0 Q (F0 m 238 ls [.int x13, .ref aR])) h ?_ ?_
          · skip
            intro x13 h
            intro H locs ls hW hl
            refine x_put (ws' := [(aR, .inr (1, [.ref aR_text, .int R_length, .ref R_land, .int x1, .int x10, .int x13, .ref aR_numbers])), (aR_text, .inl (gB G, 150, .inl R_text))]) C hE hW fp_Rd_33 0 rfl rfl rfl (Nat.le_of_ble_eq_true rfl) rfl d_Rd_nextToken_238 (fun H locs hW => ?_)
            obtain rfl := Option.some.inj h
            exact x_vret C hW rfl rfl hQ d_Rd_nextToken_241
          · intro J238 hJ238 h
            refine lv_icmp_ne (tgt := 237) C.1.1 C.1.2.1 d_Rd_nextToken_230 (by decide) (fun cc => ?_) (fun cc => ?_)
            · replace h := it_f cc h
              refine lv_iconst (v := 4) C.1.1 C.1.2.1 d_Rd_nextToken_237 (by decide) ?_
              exact hJ238 _ h _ _ _ hW (lv_sub hl [] rfl)
            · replace h := it_t cc h
              refine lv_iconst (v := 3) C.1.1 C.1.2.1 d_Rd_nextToken_233 (by decide) ?_
              refine lv_goto (tgt := 238) C.1.1 C.1.2.1 d_Rd_nextToken_234 (by decide) ?_
              exact hJ238 _ h _ _ _ hW (lv_sub hl [] rfl)
        · replace h := it_f cc h
          refine jn_at (P := fun (x14 : Int32) => ∀ (H : Heap) (locs : List Loc) (ls : Array Slot), Wd G A s.heap H locs [(aR, .inr (1, [.ref aR_text, .int R_length, .ref R_land, .int x1, .int x14, .int R_token, .ref aR_numbers])), (aR_text, .inl (gB G, 150, .inl R_text))] → lv_has ls 1 [(0, .ref aR)] → W p l e (RM 1 21) s m args below meth c H locs 0 0 Q (F0 m 184 ls [])) h ?_ ?_
          · skip
            intro x14 h
            intro H locs ls hW hl
            refine lv_aload_n C.1.1 C.1.2.1 d_Rd_nextToken_184 rfl (lv_at hl 0 rfl) ?_
            refine lv_aload_n C.1.1 C.1.2.1 d_Rd_nextToken_185 rfl (lv_at hl 0 rfl) ?_
            refine x_get C hE hW fl_Rd_27 0 rfl rfl d_Rd_nextToken_186 ?_
            refine lv_aload_n C.1.1 C.1.2.1 d_Rd_nextToken_189 rfl (lv_at hl 0 rfl) ?_
            refine x_get C hE hW fl_Rd_40 0 rfl rfl d_Rd_nextToken_190 ?_
            refine lv_isub C.1.1 C.1.2.1 d_Rd_nextToken_193 ?_
            refine lv_iconst (v := 2) C.1.1 C.1.2.1 d_Rd_nextToken_194 (by decide) ?_
            refine jn_at (P := fun (x15 : Int32) => ∀ (H : Heap) (locs : List Loc) (ls : Array Slot), Wd G A s.heap H locs [(aR, .inr (1, [.ref aR_text, .int R_length, .ref R_land, .int x1, .int x14, .int R_token, .ref aR_numbers])), (aR_text, .inl (gB G, 150, .inl R_text))] → lv_has ls 1 [] → W p l e (RM 1 21) s m args below meth c H locs 0 0 Q (F0 m 203 ls [.int x15, .ref aR])) h ?_ ?_
            · skip
              intro x15 h
              intro H locs ls hW hl
              refine x_put (ws' := [(aR, .inr (1, [.ref aR_text, .int R_length, .ref R_land, .int x1, .int x14, .int x15, .ref aR_numbers])), (aR_text, .inl (gB G, 150, .inl R_text))]) C hE hW fp_Rd_33 0 rfl rfl rfl (Nat.le_of_ble_eq_true rfl) rfl d_Rd_nextToken_203 (fun H locs hW => ?_)
              refine lv_goto (tgt := 241) C.1.1 C.1.2.1 d_Rd_nextToken_206 (by decide) ?_
              obtain rfl := Option.some.inj h
              exact x_vret C hW rfl rfl hQ d_Rd_nextToken_241
            · intro J203 hJ203 h
              refine lv_icmp_le (tgt := 202) C.1.1 C.1.2.1 d_Rd_nextToken_195 (by decide) (fun cc => ?_) (fun cc => ?_)
              · replace h := it_t cc h
                refine lv_iconst (v := 2) C.1.1 C.1.2.1 d_Rd_nextToken_202 (by decide) ?_
                exact hJ203 _ h _ _ _ hW (lv_sub hl [] rfl)
              · replace h := it_f cc h
                refine lv_iconst (v := 4) C.1.1 C.1.2.1 d_Rd_nextToken_198 (by decide) ?_
                refine lv_goto (tgt := 203) C.1.1 C.1.2.1 d_Rd_nextToken_199 (by decide) ?_
                exact hJ203 _ h _ _ _ hW (lv_sub hl [] rfl)
          · intro J184 hJ184 h
            refine lp_at (P := fun (x16 : Int32) => ∀ (H : Heap) (locs : List Loc) (ls : Array Slot), Wd G A s.heap H locs [(aR, .inr (1, [.ref aR_text, .int R_length, .ref R_land, .int x1, .int x16, .int R_token, .ref aR_numbers])), (aR_text, .inl (gB G, 150, .inl R_text))] → lv_has ls 1 [(0, .ref aR)] → W p l e (RM 1 21) s m args below meth c H locs 0 0 Q (F0 m 146 ls [])) ?_ FU _ h _ _ _ hW (lv_sub hl [0] rfl)
            clear h hl hW
            intro rec146 ih146
            intro x16 h
            unfold f_Rd_nextToken_L146 at h
            intro H locs ls hW hl
            refine lv_aload_n C.1.1 C.1.2.1 d_Rd_nextToken_146 rfl (lv_at hl 0 rfl) ?_
            refine x_get C hE hW fl_Rd_27 0 rfl rfl d_Rd_nextToken_147 ?_
            refine lv_aload_n C.1.1 C.1.2.1 d_Rd_nextToken_150 rfl (lv_at hl 0 rfl) ?_
            refine x_get C hE hW fl_Rd_23 0 rfl rfl d_Rd_nextToken_151 ?_
            refine lv_icmp_ge (tgt := 184) C.1.1 C.1.2.1 d_Rd_nextToken_154 (by decide) (fun cc => ?_) (fun cc => ?_)
            · replace h := it_t cc h
              exact hJ184 _ h _ _ _ hW (lv_sub hl [0] rfl)
            · replace h := it_f cc h
              refine lv_aload_n C.1.1 C.1.2.1 d_Rd_nextToken_157 rfl (lv_at hl 0 rfl) ?_
              refine lv_aload_n C.1.1 C.1.2.1 d_Rd_nextToken_158 rfl (lv_at hl 0 rfl) ?_
              refine x_get C hE hW fl_Rd_27 0 rfl rfl d_Rd_nextToken_159 ?_
              obtain ⟨x17, hc18, h⟩ := bd_at h
              refine x_callV (ws' := [(aR, .inr (1, [.ref aR_text, .int R_length, .ref R_land, .int x1, .int x16, .int R_token, .ref aR_numbers])), (aR_text, .inl (gB G, 150, .inl R_text))]) (stk := [.int x17]) (rest := []) (As := [.int x16]) (q0 := 0) C hE hW (c_Rd_at l G aR aR_text aR_numbers R_length R_land x1 x16 R_token R_text x16 hc18) cv_Rd_at tw435 hl rfl rfl (Nat.le_of_ble_eq_true rfl) rfl rfl rfl ⟨Nat.le_of_ble_eq_true rfl, Nat.le_of_ble_eq_true rfl⟩ ⟨Nat.zero_le _, Nat.zero_le _⟩ [0, 1] [] [0, 1] rfl rfl rfl (by decide) rfl rfl rfl rfl d_Rd_nextToken_162 (fun H locs hW => ?_)
              obtain ⟨x19, hc20, h⟩ := bd_at h
              refine x_callS (ws' := [(aR, .inr (1, [.ref aR_text, .int R_length, .ref R_land, .int x1, .int x16, .int R_token, .ref aR_numbers])), (aR_text, .inl (gB G, 150, .inl R_text))]) (stk := [.int x19]) (rest := []) (As := [.int x17]) C hE hW (c_Rd_isFigure l G x17 hc20) cv_Rd_isFigure tw442 hl rfl rfl (Nat.le_of_ble_eq_true rfl) ⟨Nat.le_of_ble_eq_true rfl, Nat.le_of_ble_eq_true rfl⟩ ⟨Nat.zero_le _, Nat.zero_le _⟩ [] [0, 1] [0, 1] rfl rfl rfl (by decide) rfl rfl rfl rfl d_Rd_nextToken_165 (fun H locs hW => ?_)
              refine lv_if_eq (tgt := 184) C.1.1 C.1.2.1 d_Rd_nextToken_168 (by decide) (fun cc => ?_) (fun cc => ?_)
              · replace h := it_t cc h
                exact hJ184 _ h _ _ _ hW (lv_sub hl [0] rfl)
              · replace h := it_f cc h
                refine lv_aload_n C.1.1 C.1.2.1 d_Rd_nextToken_171 rfl (lv_at hl 0 rfl) ?_
                refine lv_dup C.1.1 C.1.2.1 d_Rd_nextToken_172 rfl ?_
                refine x_get C hE hW fl_Rd_27 0 rfl rfl d_Rd_nextToken_173 ?_
                refine lv_iconst (v := 1) C.1.1 C.1.2.1 d_Rd_nextToken_176 (by decide) ?_
                refine lv_iadd C.1.1 C.1.2.1 d_Rd_nextToken_177 ?_
                refine lv_topi (fun x21 ex21 => ?_)
                replace h := lt_at ex21 h
                refine x_put (ws' := [(aR, .inr (1, [.ref aR_text, .int R_length, .ref R_land, .int x1, .int x21, .int R_token, .ref aR_numbers])), (aR_text, .inl (gB G, 150, .inl R_text))]) C hE hW fp_Rd_27 0 rfl rfl rfl (Nat.le_of_ble_eq_true rfl) rfl d_Rd_nextToken_178 (fun H locs hW => ?_)
                refine lv_goto (tgt := 146) C.1.1 C.1.2.1 d_Rd_nextToken_181 (by decide) ?_
                exact ih146 _ h _ _ _ hW (lv_sub hl [0] rfl)
      · replace h := it_f cc h
        refine jn_at (P := fun (x22 : Int32) => ∀ (H : Heap) (locs : List Loc) (ls : Array Slot), Wd G A s.heap H locs [(aR, .inr (1, [.ref aR_text, .int R_length, .ref R_land, .int x1, .int x22, .int R_token, .ref aR_numbers])), (aR_text, .inl (gB G, 150, .inl R_text))] → lv_has ls 1 [(0, .ref aR)] → W p l e (RM 1 21) s m args below meth c H locs 0 0 Q (F0 m 124 ls [])) h ?_ ?_
        · skip
          intro x22 h
          intro H locs ls hW hl
          refine lv_aload_n C.1.1 C.1.2.1 d_Rd_nextToken_124 rfl (lv_at hl 0 rfl) ?_
          refine lv_iconst (v := 1) C.1.1 C.1.2.1 d_Rd_nextToken_125 (by decide) ?_
          refine x_put (ws' := [(aR, .inr (1, [.ref aR_text, .int R_length, .ref R_land, .int x1, .int x22, .int 1, .ref aR_numbers])), (aR_text, .inl (gB G, 150, .inl R_text))]) C hE hW fp_Rd_33 0 rfl rfl rfl (Nat.le_of_ble_eq_true rfl) rfl d_Rd_nextToken_126 (fun H locs hW => ?_)
          refine lv_goto (tgt := 241) C.1.1 C.1.2.1 d_Rd_nextToken_129 (by decide) ?_
          obtain rfl := Option.some.inj h
          exact x_vret C hW rfl rfl hQ d_Rd_nextToken_241
        · intro J124 hJ124 h
          refine lp_at (P := fun (x23 : Int32) => ∀ (H : Heap) (locs : List Loc) (ls : Array Slot), Wd G A s.heap H locs [(aR, .inr (1, [.ref aR_text, .int R_length, .ref R_land, .int x1, .int x23, .int R_token, .ref aR_numbers])), (aR_text, .inl (gB G, 150, .inl R_text))] → lv_has ls 1 [(0, .ref aR)] → W p l e (RM 1 21) s m args below meth c H locs 0 0 Q (F0 m 86 ls [])) ?_ FU _ h _ _ _ hW (lv_sub hl [0] rfl)
          clear h hl hW
          intro rec86 ih86
          intro x23 h
          unfold f_Rd_nextToken_L86 at h
          intro H locs ls hW hl
          refine lv_aload_n C.1.1 C.1.2.1 d_Rd_nextToken_86 rfl (lv_at hl 0 rfl) ?_
          refine x_get C hE hW fl_Rd_27 0 rfl rfl d_Rd_nextToken_87 ?_
          refine lv_aload_n C.1.1 C.1.2.1 d_Rd_nextToken_90 rfl (lv_at hl 0 rfl) ?_
          refine x_get C hE hW fl_Rd_23 0 rfl rfl d_Rd_nextToken_91 ?_
          refine lv_icmp_ge (tgt := 124) C.1.1 C.1.2.1 d_Rd_nextToken_94 (by decide) (fun cc => ?_) (fun cc => ?_)
          · replace h := it_t cc h
            exact hJ124 _ h _ _ _ hW (lv_sub hl [0] rfl)
          · replace h := it_f cc h
            refine lv_aload_n C.1.1 C.1.2.1 d_Rd_nextToken_97 rfl (lv_at hl 0 rfl) ?_
            refine lv_aload_n C.1.1 C.1.2.1 d_Rd_nextToken_98 rfl (lv_at hl 0 rfl) ?_
            refine x_get C hE hW fl_Rd_27 0 rfl rfl d_Rd_nextToken_99 ?_
            obtain ⟨x24, hc25, h⟩ := bd_at h
            refine x_callV (ws' := [(aR, .inr (1, [.ref aR_text, .int R_length, .ref R_land, .int x1, .int x23, .int R_token, .ref aR_numbers])), (aR_text, .inl (gB G, 150, .inl R_text))]) (stk := [.int x24]) (rest := []) (As := [.int x23]) (q0 := 0) C hE hW (c_Rd_at l G aR aR_text aR_numbers R_length R_land x1 x23 R_token R_text x23 hc25) cv_Rd_at tw435 hl rfl rfl (Nat.le_of_ble_eq_true rfl) rfl rfl rfl ⟨Nat.le_of_ble_eq_true rfl, Nat.le_of_ble_eq_true rfl⟩ ⟨Nat.zero_le _, Nat.zero_le _⟩ [0, 1] [] [0, 1] rfl rfl rfl (by decide) rfl rfl rfl rfl d_Rd_nextToken_102 (fun H locs hW => ?_)
            obtain ⟨x26, hc27, h⟩ := bd_at h
            refine x_callS (ws' := [(aR, .inr (1, [.ref aR_text, .int R_length, .ref R_land, .int x1, .int x23, .int R_token, .ref aR_numbers])), (aR_text, .inl (gB G, 150, .inl R_text))]) (stk := [.int x26]) (rest := []) (As := [.int x24]) C hE hW (c_Rd_isLetter l G x24 hc27) cv_Rd_isLetter tw439 hl rfl rfl (Nat.le_of_ble_eq_true rfl) ⟨Nat.le_of_ble_eq_true rfl, Nat.le_of_ble_eq_true rfl⟩ ⟨Nat.zero_le _, Nat.zero_le _⟩ [] [0, 1] [0, 1] rfl rfl rfl (by decide) rfl rfl rfl rfl d_Rd_nextToken_105 (fun H locs hW => ?_)
            refine lv_if_eq (tgt := 124) C.1.1 C.1.2.1 d_Rd_nextToken_108 (by decide) (fun cc => ?_) (fun cc => ?_)
            · replace h := it_t cc h
              exact hJ124 _ h _ _ _ hW (lv_sub hl [0] rfl)
            · replace h := it_f cc h
              refine lv_aload_n C.1.1 C.1.2.1 d_Rd_nextToken_111 rfl (lv_at hl 0 rfl) ?_
              refine lv_dup C.1.1 C.1.2.1 d_Rd_nextToken_112 rfl ?_
              refine x_get C hE hW fl_Rd_27 0 rfl rfl d_Rd_nextToken_113 ?_
              refine lv_iconst (v := 1) C.1.1 C.1.2.1 d_Rd_nextToken_116 (by decide) ?_
              refine lv_iadd C.1.1 C.1.2.1 d_Rd_nextToken_117 ?_
              refine lv_topi (fun x28 ex28 => ?_)
              replace h := lt_at ex28 h
              refine x_put (ws' := [(aR, .inr (1, [.ref aR_text, .int R_length, .ref R_land, .int x1, .int x28, .int R_token, .ref aR_numbers])), (aR_text, .inl (gB G, 150, .inl R_text))]) C hE hW fp_Rd_27 0 rfl rfl rfl (Nat.le_of_ble_eq_true rfl) rfl d_Rd_nextToken_118 (fun H locs hW => ?_)
              refine lv_goto (tgt := 86) C.1.1 C.1.2.1 d_Rd_nextToken_121 (by decide) ?_
              exact ih86 _ h _ _ _ hW (lv_sub hl [0] rfl)
    · replace h := it_f cc h
      refine lv_aload_n C.1.1 C.1.2.1 d_Rd_nextToken_64 rfl (lv_at hl 0 rfl) ?_
      refine lv_iconst (v := 0) C.1.1 C.1.2.1 d_Rd_nextToken_65 (by decide) ?_
      refine x_put (ws' := [(aR, .inr (1, [.ref aR_text, .int R_length, .ref R_land, .int x1, .int x1, .int 0, .ref aR_numbers])), (aR_text, .inl (gB G, 150, .inl R_text))]) C hE hW fp_Rd_33 0 rfl rfl rfl (Nat.le_of_ble_eq_true rfl) rfl d_Rd_nextToken_66 (fun H locs hW => ?_)
      refine lv_goto (tgt := 241) C.1.1 C.1.2.1 d_Rd_nextToken_69 (by decide) ?_
      obtain rfl := Option.some.inj h
      exact x_vret C hW rfl rfl hQ d_Rd_nextToken_241
  · intro J45 hJ45 h
    refine lp_at (P := fun (x29 : Int32) => ∀ (H : Heap) (locs : List Loc) (ls : Array Slot), Wd G A s.heap H locs [(aR, .inr (1, [.ref aR_text, .int R_length, .ref R_land, .int x29, .int R_end, .int R_token, .ref aR_numbers])), (aR_text, .inl (gB G, 150, .inl R_text))] → lv_has ls 1 [(0, .ref aR)] → W p l e (RM 1 21) s m args below meth c H locs 0 0 Q (F0 m 8 ls [])) ?_ FU _ h _ _ _ hW (lv_sub hl [0] rfl)
    clear h hl hW
    intro rec8 ih8
    intro x29 h
    unfold f_Rd_nextToken_L8 at h
    intro H locs ls hW hl
    refine lv_aload_n C.1.1 C.1.2.1 d_Rd_nextToken_8 rfl (lv_at hl 0 rfl) ?_
    refine x_get C hE hW fl_Rd_40 0 rfl rfl d_Rd_nextToken_9 ?_
    refine lv_aload_n C.1.1 C.1.2.1 d_Rd_nextToken_12 rfl (lv_at hl 0 rfl) ?_
    refine x_get C hE hW fl_Rd_23 0 rfl rfl d_Rd_nextToken_13 ?_
    refine lv_icmp_ge (tgt := 45) C.1.1 C.1.2.1 d_Rd_nextToken_16 (by decide) (fun cc => ?_) (fun cc => ?_)
    · replace h := it_t cc h
      exact hJ45 _ h _ _ _ hW (lv_sub hl [0] rfl)
    · replace h := it_f cc h
      refine lv_aload_n C.1.1 C.1.2.1 d_Rd_nextToken_19 rfl (lv_at hl 0 rfl) ?_
      refine lv_aload_n C.1.1 C.1.2.1 d_Rd_nextToken_20 rfl (lv_at hl 0 rfl) ?_
      refine x_get C hE hW fl_Rd_40 0 rfl rfl d_Rd_nextToken_21 ?_
      obtain ⟨x30, hc31, h⟩ := bd_at h
      refine x_callV (ws' := [(aR, .inr (1, [.ref aR_text, .int R_length, .ref R_land, .int x29, .int R_end, .int R_token, .ref aR_numbers])), (aR_text, .inl (gB G, 150, .inl R_text))]) (stk := [.int x30]) (rest := []) (As := [.int x29]) (q0 := 0) C hE hW (c_Rd_at l G aR aR_text aR_numbers R_length R_land x29 R_end R_token R_text x29 hc31) cv_Rd_at tw435 hl rfl rfl (Nat.le_of_ble_eq_true rfl) rfl rfl rfl ⟨Nat.le_of_ble_eq_true rfl, Nat.le_of_ble_eq_true rfl⟩ ⟨Nat.zero_le _, Nat.zero_le _⟩ [0, 1] [] [0, 1] rfl rfl rfl (by decide) rfl rfl rfl rfl d_Rd_nextToken_24 (fun H locs hW => ?_)
      refine lv_bipush (v := 32) C.1.1 C.1.2.1 d_Rd_nextToken_27 (by decide) ?_
      refine lv_icmp_ne (tgt := 45) C.1.1 C.1.2.1 d_Rd_nextToken_29 (by decide) (fun cc => ?_) (fun cc => ?_)
      · replace h := it_f cc h
        exact hJ45 _ h _ _ _ hW (lv_sub hl [0] rfl)
      · replace h := it_t cc h
        refine lv_aload_n C.1.1 C.1.2.1 d_Rd_nextToken_32 rfl (lv_at hl 0 rfl) ?_
        refine lv_dup C.1.1 C.1.2.1 d_Rd_nextToken_33 rfl ?_
        refine x_get C hE hW fl_Rd_40 0 rfl rfl d_Rd_nextToken_34 ?_
        refine lv_iconst (v := 1) C.1.1 C.1.2.1 d_Rd_nextToken_37 (by decide) ?_
        refine lv_iadd C.1.1 C.1.2.1 d_Rd_nextToken_38 ?_
        refine lv_topi (fun x32 ex32 => ?_)
        replace h := lt_at ex32 h
        refine x_put (ws' := [(aR, .inr (1, [.ref aR_text, .int R_length, .ref R_land, .int x32, .int R_end, .int R_token, .ref aR_numbers])), (aR_text, .inl (gB G, 150, .inl R_text))]) C hE hW fp_Rd_40 0 rfl rfl rfl (Nat.le_of_ble_eq_true rfl) rfl d_Rd_nextToken_39 (fun H locs hW => ?_)
        refine lv_goto (tgt := 8) C.1.1 C.1.2.1 d_Rd_nextToken_42 (by decide) ?_
        exact ih8 _ h _ _ _ hW (lv_sub hl [0] rfl)
section XK
variable {p : Program} {l : Launch} {e : Env} {R : Room} {s : State} {m : MethodId} {args : Array Value} {below : List Frame} {meth : Method} {c : Code} {H : Heap} {locs : List Loc} {cells slots : Nat} {Q : State → Prop}
  {own : String} {y : MethodName} {b : ByteArray} {nL : Nat} {ret : Option FieldType} {G : Gl} {A : Nat → Prop} {H0 : Heap} {ws ws' : va_W} {pc : Nat} {ls : Array Slot} {rest : List Value} {a : Nat} {lv' : List (Nat × Value)}
theorem x_callK {idx n fr lo nL1 : Nat} {y1 : MethodName} {b1 : ByteArray} {ret1 : Option FieldType} {As : List Value} {rv : Option Value} {wc wc' : va_W} {st0 stk : List Value} 
    (C : Cx p s args m c meth own y b nL ret) (hE : KK G A s) (hW : Wd G A s.heap H locs ws) (hM : Ct l y1 b1 nL1 ret1 fr lo G (.ref a :: As) wc rv wc') (hc : CV y1 b1 nL1 ret1 n) (hl : Cond.methodLink own idx y1 ∈ TT)
    (hls : lv_has ls nL lv') (hn : As.length = n) (hst : st0 = As.reverse ++ .ref a :: rest) (hrest : (rest.map fun v => v.category).sum ≤ 8)
    (hrec : ∃ cell : Cell, H[a]? = some cell ∧ cell.vm.isStatics = false ∧ s.vm.findClass y1.cls = some cell.cls) (hR : fr + 1 ≤ R.frames ∧ 8 + (nL1 + 11) + lo ≤ R.locals) (hroom : cells ≤ R.cells ∧ slots ≤ R.slots)
    (isC isR perm : List Nat) (hC : isC.map (fun i => ws[i]?) = wc.map some) (hRs : isR.all (fun i => decide (i < ws.length)) = true) (hnr : va_nd isR = true) (hdis : ∀ i ∈ isR, i ∉ isC) (hnp : va_nd perm = true) (hp : perm.map (fun i => ((isR.filterMap fun i => ws[i]?) ++ wc')[i]?) = ws'.map some) (hnc : va_nd isC = true)
    (hstk : rv.toList ++ rest = stk) (hdg : decode b pc = .ok (.invokevirtual idx, 3))
    (kk : ∀ (H1 : Heap) (locs1 : List Loc), Wd G A s.heap H1 locs1 ws' → W p l e R s m args below meth c H1 locs1 cells slots Q (F0 m (pc + 3) ls stk)) : W p l e R s m args below meth c H locs cells slots Q (F0 m pc ls st0)   := by
  subst hstk
  obtain ⟨k1, k2, k3, k4, k5, k6⟩ := hc
  have hP1 := hW.1.sub (ws' := wc) isC (by
    have := congrArg (List.filterMap id) hC
    simpa [List.filterMap_map, Function.comp_def] using this)
  have hD1 := (hW.2.1.sub isC hnc hC).weaken (B := fun _ => True) (fun _ _ _ _ => trivial)
  refine x_run (av := (Value.ref a :: As).toArray) (va_runV (As := As) (rest := rest) C.1 (hM H.size) (cwV n C.1.2.2.2.2 (tt_sub (fun w hw => ?_)) rfl rfl rfl ⟨rfl, k5.1, k5.2, k6⟩ hR) ⟨fun a' U g mk q => ?_, hrec, fun U hU hw => ?_⟩ rfl hn hls.1 hst (lv_room hrest) hdg ⟨hroom.1, hroom.2⟩) hW isC isR perm hC (wd_rest hRs) hnr hdis hnp hp kk
  · rcases List.mem_append.mp hw with h | h
    · simp only [List.mem_cons, List.not_mem_nil, or_false] at h
      rcases h with rfl | rfl | rfl | rfl
      · exact hl
      · exact k1
      · exact k2
      · exact k3
    · exact tt_code k4 w h
  · obtain ⟨z0, z1, z2, z3, z4⟩ := q
    exact ⟨z0, z1, z2, z3.blind g mk a', z4⟩
  · exact ⟨rfl, by rw [hU], by rw [hU]; exact hP1, hE.warm hw (by rw [hU]; exact hW.2.2.1) (va_free hW.2.1 hW.2.2.1 hW.2.2.2 isC hC), hD1⟩
theorem x_aret {rm : Room} {v : Nat} {rv : Option Value} {ws' : va_W} {rt : FieldType} (C : Cx p s args m c meth own y b nL (some rt)) (hrt : (∃ n, rt = .object n) ∨ ∃ t, rt = .array t) (hW : Wd G A s.heap H locs ws) (hv : some (Value.ref v) = rv) (hws : ws = ws') (hQ : Q = MQ below (Qx G rv ws' A) args s 0 0 A) (hdg : decode b pc = .ok (.areturn, 1)) : W p l e rm s m args below meth c H locs 0 0 Q (F0 m pc ls [.ref v]) := by
  subst hQ; subst hv; subst hws
  exact W.aret C.1.1 C.1.2.1 C.2.1 hrt (Or.inr ⟨_, rfl⟩) (fun t ht hw => ⟨⟨rfl, by rw [ht]; exact hW.1, hW.2.1⟩, hW.2.2.1.F ht⟩) hW.2.2.1.2.2 hdg C.2.2
end XK
theorem cv_JP_checkIndex : CS y_JP_checkIndex b_JP_checkIndex 3 (some .int) 3 := ⟨tw493, tw86, tw494, ⟨by decide, by decide⟩, by decide⟩
theorem cv_JS_checkIndex : CS y_JS_checkIndex b_JS_checkIndex 2 none 2 := ⟨tw488, tw84, tw489, ⟨by decide, by decide⟩, by decide⟩
theorem cv_J1_charAt : CS y_J1_charAt b_J1_charAt 2 (some .char) 2 := ⟨tw485, tw85, tw486, ⟨by decide, by decide⟩, by decide⟩
theorem cv_JS_coder : CV y_JS_coder b_JS_coder 1 (some .byte) 0 := ⟨tw471, tw472, tw84, tw473, ⟨by decide, by decide⟩, by decide⟩
theorem cv_JS_isLatin1 : CV y_JS_isLatin1 b_JS_isLatin1 1 (some .boolean) 0 := ⟨tw481, tw482, tw84, tw483, ⟨by decide, by decide⟩, by decide⟩
theorem cv_JS_length : CV y_JS_length b_JS_length 1 (some .int) 0 := ⟨tw467, tw468, tw84, tw469, ⟨by decide, by decide⟩, by decide⟩
theorem cv_JS_charAt : CV y_JS_charAt b_JS_charAt 2 (some .char) 1 := ⟨tw477, tw478, tw84, tw479, ⟨by decide, by decide⟩, by decide⟩
theorem cv_Rd_isAtPlace : CV y_Rd_isAtPlace b_Rd_isAtPlace 3 (some .boolean) 1 := ⟨tw464, tw10, tw81, tw465, ⟨by decide, by decide⟩, by decide⟩
theorem cv_Rd_spelling : CS y_Rd_spelling b_Rd_spelling 1 (some (.object "java/lang/String")) 1 := ⟨tw454, tw81, tw455, ⟨by decide, by decide⟩, by decide⟩
theorem KK.str {G : Gl} {A : Nat → Prop} {s : State} (hE : KK G A s) {w : Nat} (hw : w < 6) : va_O "java/lang/String" (gK G w) A s s.heap ∧ va_OF "java/lang/String" "coder" "B" (.int 0) (gK G w) A s s.heap ∧ va_OF "java/lang/String" "value" "[B" (.ref (gV G w)) (gK G w) A s s.heap ∧ va_T .byte (gV G w) (sLen.getD w 0) (fun j => .int ((sByt.getD w []).getD j 0)) A s s.heap := hE.2.2.2.2.1.1 w hw
set_option maxHeartbeats 4000000 in
set_option maxRecDepth 100000 in
theorem c_JP_checkIndex (l : Launch) (G : Gl) (a b : Int32) (r : Option Nat) (h0 : ¬ a < 0) (h1 : a < b) : Ct l y_JP_checkIndex b_JP_checkIndex 3 (some .int) 0 0 G [.int a, .int b, va_rf r] [] (some (.int a)) [] := by
  refine Ct.mk (by decide) (by cases r <;> exact Nat.le_of_ble_eq_true rfl) ?_
  intro p e s m args below meth c ls A Q C hE hW hl hQ
  have C : Cx p s args m c meth "jdk/internal/util/Preconditions" y_JP_checkIndex b_JP_checkIndex 3 (some .int) := C
  have hl : lv_has ls 3 [(0, .int a), (1, .int b), (2, va_rf r)] := hl
  refine lv_iload_n C.1.1 C.1.2.1 d_JP_checkIndex_0 rfl (lv_at hl 0 rfl) ?_
  refine lv_if_lt (tgt := 9) C.1.1 C.1.2.1 d_JP_checkIndex_1 (by decide) (fun cc => absurd cc h0) (fun cc => ?_)
  refine lv_iload_n C.1.1 C.1.2.1 d_JP_checkIndex_4 rfl (lv_at hl 0 rfl) ?_
  refine lv_iload_n C.1.1 C.1.2.1 d_JP_checkIndex_5 rfl (lv_at hl 1 rfl) ?_
  refine lv_icmp_lt (tgt := 16) C.1.1 C.1.2.1 d_JP_checkIndex_6 (by decide) (fun cc => ?_) (fun cc => absurd h1 cc)
  refine lv_iload_n C.1.1 C.1.2.1 d_JP_checkIndex_16 rfl (lv_at hl 0 rfl) ?_
  exact x_iret C hW rfl rfl hQ d_JP_checkIndex_17
set_option maxHeartbeats 4000000 in
set_option maxRecDepth 100000 in
theorem c_JS_checkIndex (l : Launch) (G : Gl) (a b : Int32) (h0 : ¬ a < 0) (h1 : a < b) : Ct l y_JS_checkIndex b_JS_checkIndex 2 none 1 22 G [.int a, .int b] [] none [] := by
  refine Ct.mk (by decide) (Nat.le_of_ble_eq_true rfl) ?_
  intro p e s m args below meth c ls A Q C hE hW hl hQ
  have C : Cx p s args m c meth "java/lang/String" y_JS_checkIndex b_JS_checkIndex 2 none := C
  have hl : lv_has ls 2 [(0, .int a), (1, .int b)] := hl
  refine lv_iload_n C.1.1 C.1.2.1 d_JS_checkIndex_0 rfl (lv_at hl 0 rfl) ?_
  refine lv_iload_n C.1.1 C.1.2.1 d_JS_checkIndex_1 rfl (lv_at hl 1 rfl) ?_
  obtain ⟨r, hZ⟩ : ∃ r : Option Nat, va_Z "jdk/internal/util/Preconditions" "SIOOBE_FORMATTER" "Ljava/util/function/BiFunction;" (va_rf r) A s s.heap := by
    rcases hE.2.2.2.2.2.2 with h | ⟨t, h⟩
    · exact ⟨none, h⟩
    · exact ⟨some t, h⟩
  refine va_gets (own := "java/lang/String") (ref := "jdk/internal/util/Preconditions") C.1.1 C.1.2.1 hZ hW.2.2.1 C.1.2.2.2.1 (C.w tw490) (fun _ h => h) d_JS_checkIndex_2 ?_
  refine x_callS (ws' := []) (stk := [.int a]) (rest := []) (As := [.int a, .int b, va_rf r]) C hE hW (c_JP_checkIndex l G a b r h0 h1) cv_JP_checkIndex tw492 hl rfl rfl (Nat.le_of_ble_eq_true rfl) ⟨Nat.le_of_ble_eq_true rfl, Nat.le_of_ble_eq_true rfl⟩ ⟨Nat.zero_le _, Nat.zero_le _⟩ [] [] [] rfl rfl rfl (by decide) rfl rfl rfl rfl d_JS_checkIndex_5 (fun H locs hW => ?_)
  refine lv_pop C.1.1 C.1.2.1 d_JS_checkIndex_8 rfl ?_
  exact x_vret C hW rfl rfl hQ d_JS_checkIndex_9
set_option maxHeartbeats 4000000 in
set_option maxRecDepth 100000 in
theorem c_JS_coder (l : Launch) (G : Gl) (w : Nat) (hw : w < 6) : Ct l y_JS_coder b_JS_coder 1 (some .byte) 0 0 G [.ref (gK G w)] [] (some (.int 0)) [] := by
  refine Ct.mk (by decide) (Nat.le_of_ble_eq_true rfl) ?_
  intro p e s m args below meth c ls A Q C hE hW hl hQ
  have C : Cx p s args m c meth "java/lang/String" y_JS_coder b_JS_coder 1 (some .byte) := C
  have hl : lv_has ls 1 [(0, .ref (gK G w))] := hl
  refine va_gets (own := "java/lang/String") (ref := "java/lang/String") C.1.1 C.1.2.1 hE.2.2.2.2.2.1 hW.2.2.1 C.1.2.2.2.1 (C.w tw474) (fun _ h => h) d_JS_coder_0 ?_
  refine lv_if_eq (tgt := 13) C.1.1 C.1.2.1 d_JS_coder_3 (by decide) (fun cc => absurd cc (by decide)) (fun cc => ?_)
  refine lv_aload_n C.1.1 C.1.2.1 d_JS_coder_6 rfl (lv_at hl 0 rfl) ?_
  refine vk_getf (own := "java/lang/String") (ref := "java/lang/String") C.1.1 C.1.2.1 (hE.str hw).2.1 hW.2.2.1 C.1.2.2.2.1 (C.w tw1259) (fun _ h => h) d_JS_coder_7 ?_
  refine lv_goto (tgt := 14) C.1.1 C.1.2.1 d_JS_coder_10 (by decide) ?_
  exact x_zret C hW rfl rfl rfl hQ d_JS_coder_14
set_option maxHeartbeats 4000000 in
set_option maxRecDepth 100000 in
theorem c_JS_isLatin1 (l : Launch) (G : Gl) (w : Nat) (hw : w < 6) : Ct l y_JS_isLatin1 b_JS_isLatin1 1 (some .boolean) 0 0 G [.ref (gK G w)] [] (some (.int 1)) [] := by
  refine Ct.mk (by decide) (Nat.le_of_ble_eq_true rfl) ?_
  intro p e s m args below meth c ls A Q C hE hW hl hQ
  have C : Cx p s args m c meth "java/lang/String" y_JS_isLatin1 b_JS_isLatin1 1 (some .boolean) := C
  have hl : lv_has ls 1 [(0, .ref (gK G w))] := hl
  refine va_gets (own := "java/lang/String") (ref := "java/lang/String") C.1.1 C.1.2.1 hE.2.2.2.2.2.1 hW.2.2.1 C.1.2.2.2.1 (C.w tw474) (fun _ h => h) d_JS_isLatin1_0 ?_
  refine lv_if_eq (tgt := 17) C.1.1 C.1.2.1 d_JS_isLatin1_3 (by decide) (fun cc => absurd cc (by decide)) (fun cc => ?_)
  refine lv_aload_n C.1.1 C.1.2.1 d_JS_isLatin1_6 rfl (lv_at hl 0 rfl) ?_
  refine vk_getf (own := "java/lang/String") (ref := "java/lang/String") C.1.1 C.1.2.1 (hE.str hw).2.1 hW.2.2.1 C.1.2.2.2.1 (C.w tw1259) (fun _ h => h) d_JS_isLatin1_7 ?_
  refine lv_if_ne (tgt := 17) C.1.1 C.1.2.1 d_JS_isLatin1_10 (by decide) (fun cc => absurd rfl cc) (fun cc => ?_)
  refine lv_iconst (v := 1) C.1.1 C.1.2.1 d_JS_isLatin1_13 (by decide) ?_
  refine lv_goto (tgt := 18) C.1.1 C.1.2.1 d_JS_isLatin1_14 (by decide) ?_
  exact x_zret C hW rfl rfl rfl hQ d_JS_isLatin1_18
set_option maxHeartbeats 4000000 in
set_option maxRecDepth 100000 in
theorem c_JS_length (l : Launch) (G : Gl) (w : Nat) (hw : w < 6) : Ct l y_JS_length b_JS_length 1 (some .int) 1 20 G [.ref (gK G w)] [] (some (.int (Int32.ofNat (sLen.getD w 0)))) [] := by
  refine Ct.mk (by decide) (Nat.le_of_ble_eq_true rfl) ?_
  intro p e s m args below meth c ls A Q C hE hW hl hQ
  have C : Cx p s args m c meth "java/lang/String" y_JS_length b_JS_length 1 (some .int) := C
  have hl : lv_has ls 1 [(0, .ref (gK G w))] := hl
  refine lv_aload_n C.1.1 C.1.2.1 d_JS_length_0 rfl (lv_at hl 0 rfl) ?_
  refine vk_getf (own := "java/lang/String") (ref := "java/lang/String") C.1.1 C.1.2.1 (hE.str hw).2.2.1 hW.2.2.1 C.1.2.2.2.1 (C.w tw1258) (fun _ h => h) d_JS_length_1 ?_
  refine va_tlen C.1.1 C.1.2.1 (hE.str hw).2.2.2 hW.2.2.1 rfl d_JS_length_4 ?_
  refine lv_aload_n C.1.1 C.1.2.1 d_JS_length_5 rfl (lv_at hl 0 rfl) ?_
  refine x_callK (ws' := []) (stk := [.int 0, .int (Int32.ofNat (sLen.getD w 0))]) (rest := [.int (Int32.ofNat (sLen.getD w 0))]) (As := []) C hE hW (c_JS_coder l G w hw) cv_JS_coder tw470 hl rfl rfl (Nat.le_of_ble_eq_true rfl) (va_Orecv (hE.str hw).1 hW.2.2.1) ⟨Nat.le_of_ble_eq_true rfl, Nat.le_of_ble_eq_true rfl⟩ ⟨Nat.zero_le _, Nat.zero_le _⟩ [] [] [] rfl rfl rfl (by decide) rfl rfl rfl rfl d_JS_length_6 (fun H locs hW => ?_)
  refine lv_ishr C.1.1 C.1.2.1 d_JS_length_9 ?_
  exact x_iret C hW (by rw [sb_shr0]) rfl hQ d_JS_length_10
theorem sch_ok : ∀ w, w < 6 → ∀ j, j < sLen.getD w 0 → ((((sByt.getD w []).getD j 0) &&& 255).toUInt32 % 65536).toInt32 = sCh w j := by decide +kernel
theorem sln_ok : ∀ w, w < 6 → sLen.getD w 0 < 7 := by decide +kernel
theorem inB_lt {i : Int32} {n : Nat} (hn : n < 2 ^ 31) (h : inB i n = true) : ¬ i < 0 ∧ i < Int32.ofNat n ∧ i.toNatClampNeg < n := by
  obtain ⟨j, hj, rfl⟩ := vp_in_of (inB_in h) hn
  have hj2 : j < 2 ^ 31 := Nat.lt_trans hj hn
  exact ⟨nI_pos hj2, nI_lt hj hn, by rw [nI_clamp hj2]; exact hj⟩
set_option maxHeartbeats 4000000 in
set_option maxRecDepth 100000 in
theorem c_J1_charAt (l : Launch) (G : Gl) (w : Nat) (hw : w < 6) (i : Int32) (hi : inB i (sLen.getD w 0) = true) : Ct l y_J1_charAt b_J1_charAt 2 (some .char) 2 43 G [.ref (gV G w), .int i] [] (some (.int (sCh w i.toNatClampNeg))) [] := by
  obtain ⟨i0, i1, i2⟩ := inB_lt (Nat.lt_trans (sln_ok w hw) (by decide)) hi
  refine Ct.mk (by decide) (Nat.le_of_ble_eq_true rfl) ?_
  intro p e s m args below meth c ls A Q C hE hW hl hQ
  have C : Cx p s args m c meth "java/lang/StringLatin1" y_J1_charAt b_J1_charAt 2 (some .char) := C
  have hl : lv_has ls 2 [(0, .ref (gV G w)), (1, .int i)] := hl
  refine lv_iload_n C.1.1 C.1.2.1 d_J1_charAt_0 rfl (lv_at hl 1 rfl) ?_
  refine lv_aload_n C.1.1 C.1.2.1 d_J1_charAt_1 rfl (lv_at hl 0 rfl) ?_
  refine va_tlen C.1.1 C.1.2.1 (hE.str hw).2.2.2 hW.2.2.1 rfl d_J1_charAt_2 ?_
  refine x_callS (ws' := []) (stk := []) (rest := []) (As := [.int i, .int (Int32.ofNat (sLen.getD w 0))]) C hE hW (c_JS_checkIndex l G i (Int32.ofNat (sLen.getD w 0)) i0 i1) cv_JS_checkIndex tw487 hl rfl rfl (Nat.le_of_ble_eq_true rfl) ⟨Nat.le_of_ble_eq_true rfl, Nat.le_of_ble_eq_true rfl⟩ ⟨Nat.zero_le _, Nat.zero_le _⟩ [] [] [] rfl rfl rfl (by decide) rfl rfl rfl rfl d_J1_charAt_3 (fun H locs hW => ?_)
  refine lv_aload_n C.1.1 C.1.2.1 d_J1_charAt_6 rfl (lv_at hl 0 rfl) ?_
  refine lv_iload_n C.1.1 C.1.2.1 d_J1_charAt_7 rfl (lv_at hl 1 rfl) ?_
  refine va_tb C.1.1 C.1.2.1 (hE.str hw).2.2.2 hW.2.2.1 (inB_in hi) rfl d_J1_charAt_8 ?_
  refine lv_sipush (v := 255) C.1.1 C.1.2.1 d_J1_charAt_9 (by decide) ?_
  refine lv_iand C.1.1 C.1.2.1 d_J1_charAt_12 ?_
  refine lv_i2c C.1.1 C.1.2.1 d_J1_charAt_13 rfl ?_
  exact x_zret C hW (pk_nc _) (by rw [← sch_ok w hw _ i2]) rfl hQ d_J1_charAt_14
set_option maxHeartbeats 4000000 in
set_option maxRecDepth 100000 in
theorem c_JS_charAt (l : Launch) (G : Gl) (w : Nat) (hw : w < 6) (i : Int32) (hi : inB i (sLen.getD w 0) = true) : Ct l y_JS_charAt b_JS_charAt 2 (some .char) 3 64 G [.ref (gK G w), .int i] [] (some (.int (sCh w i.toNatClampNeg))) [] := by
  obtain ⟨i0, i1, i2⟩ := inB_lt (Nat.lt_trans (sln_ok w hw) (by decide)) hi
  refine Ct.mk (by decide) (Nat.le_of_ble_eq_true rfl) ?_
  intro p e s m args below meth c ls A Q C hE hW hl hQ
  have C : Cx p s args m c meth "java/lang/String" y_JS_charAt b_JS_charAt 2 (some .char) := C
  have hl : lv_has ls 2 [(0, .ref (gK G w)), (1, .int i)] := hl
  refine lv_aload_n C.1.1 C.1.2.1 d_JS_charAt_0 rfl (lv_at hl 0 rfl) ?_
  refine x_callK (ws' := []) (stk := [.int 1]) (rest := []) (As := []) C hE hW (c_JS_isLatin1 l G w hw) cv_JS_isLatin1 tw480 hl rfl rfl (Nat.le_of_ble_eq_true rfl) (va_Orecv (hE.str hw).1 hW.2.2.1) ⟨Nat.le_of_ble_eq_true rfl, Nat.le_of_ble_eq_true rfl⟩ ⟨Nat.zero_le _, Nat.zero_le _⟩ [] [] [] rfl rfl rfl (by decide) rfl rfl rfl rfl d_JS_charAt_1 (fun H locs hW => ?_)
  refine lv_if_eq (tgt := 16) C.1.1 C.1.2.1 d_JS_charAt_4 (by decide) (fun cc => absurd cc (by decide)) (fun cc => ?_)
  refine lv_aload_n C.1.1 C.1.2.1 d_JS_charAt_7 rfl (lv_at hl 0 rfl) ?_
  refine vk_getf (own := "java/lang/String") (ref := "java/lang/String") C.1.1 C.1.2.1 (hE.str hw).2.2.1 hW.2.2.1 C.1.2.2.2.1 (C.w tw1258) (fun _ h => h) d_JS_charAt_8 ?_
  refine lv_iload_n C.1.1 C.1.2.1 d_JS_charAt_11 rfl (lv_at hl 1 rfl) ?_
  refine x_callS (ws' := []) (stk := [.int (sCh w i.toNatClampNeg)]) (rest := []) (As := [.ref (gV G w), .int i]) C hE hW (c_J1_charAt l G w hw i hi) cv_J1_charAt tw484 hl rfl rfl (Nat.le_of_ble_eq_true rfl) ⟨Nat.le_of_ble_eq_true rfl, Nat.le_of_ble_eq_true rfl⟩ ⟨Nat.zero_le _, Nat.zero_le _⟩ [] [] [] rfl rfl rfl (by decide) rfl rfl rfl rfl d_JS_charAt_12 (fun H locs hW => ?_)
  exact x_zret C hW (by rw [← sch_ok w hw _ i2]; exact pk_nc _) rfl rfl hQ d_JS_charAt_15
theorem f_sp_lt (x : Int32) : f_Rd_spelling x < 6 := by
  unfold f_Rd_spelling
  repeat (first | (split) | decide)
set_option maxHeartbeats 4000000 in
set_option maxRecDepth 100000 in
theorem c_Rd_spelling (l : Launch) (G : Gl) (p1 : Int32) : Ct l y_Rd_spelling b_Rd_spelling 1 (some (.object "java/lang/String")) 0 0 G [.int p1] [] (some (.ref (gK G (f_Rd_spelling p1)))) [] := by
  refine Ct.mk (by decide) (Nat.le_of_ble_eq_true rfl) ?_
  intro p e s m args below meth c ls A Q C hE hW hl hQ
  have C : Cx p s args m c meth "LentAir$Reader" y_Rd_spelling b_Rd_spelling 1 (some (.object "java/lang/String")) := C
  have hl : lv_has ls 1 [(0, .int p1)] := hl
  refine lv_iload_n C.1.1 C.1.2.1 d_Rd_spelling_0 rfl (lv_at hl 0 rfl) ?_
  rcases Decidable.em (p1 = 0) with c0 | c0
  · refine lv_tableIn (tgt := 36) C.1.1 C.1.2.1 d_Rd_spelling_1 (by rw [c0]; decide) (by rw [c0]; decide) (by rw [c0]; rfl) (by decide) ?_
    refine va_ldcS (own := "LentAir$Reader") C.1.1 C.1.2.1 C.1.2.2.2.1 hE.2.2.2.1.1 d_Rd_spelling_36 ?_
    exact x_aret C (Or.inl ⟨_, rfl⟩) hW (by rw [c0]; rfl) rfl hQ d_Rd_spelling_38
  · skip
    rcases Decidable.em (p1 = 1) with c1 | c1
    · refine lv_tableIn (tgt := 39) C.1.1 C.1.2.1 d_Rd_spelling_1 (by rw [c1]; decide) (by rw [c1]; decide) (by rw [c1]; rfl) (by decide) ?_
      refine va_ldcS (own := "LentAir$Reader") C.1.1 C.1.2.1 C.1.2.2.2.1 hE.2.2.2.1.2.1 d_Rd_spelling_39 ?_
      exact x_aret C (Or.inl ⟨_, rfl⟩) hW (by rw [c1]; rfl) rfl hQ d_Rd_spelling_41
    · skip
      rcases Decidable.em (p1 = 2) with c2 | c2
      · refine lv_tableIn (tgt := 42) C.1.1 C.1.2.1 d_Rd_spelling_1 (by rw [c2]; decide) (by rw [c2]; decide) (by rw [c2]; rfl) (by decide) ?_
        refine va_ldcS (own := "LentAir$Reader") C.1.1 C.1.2.1 C.1.2.2.2.1 hE.2.2.2.1.2.2.1 d_Rd_spelling_42 ?_
        exact x_aret C (Or.inl ⟨_, rfl⟩) hW (by rw [c2]; rfl) rfl hQ d_Rd_spelling_44
      · skip
        rcases Decidable.em (p1 = 3) with c3 | c3
        · refine lv_tableIn (tgt := 45) C.1.1 C.1.2.1 d_Rd_spelling_1 (by rw [c3]; decide) (by rw [c3]; decide) (by rw [c3]; rfl) (by decide) ?_
          refine va_ldcS (own := "LentAir$Reader") C.1.1 C.1.2.1 C.1.2.2.2.1 hE.2.2.2.1.2.2.2.1 d_Rd_spelling_45 ?_
          exact x_aret C (Or.inl ⟨_, rfl⟩) hW (by rw [c3]; rfl) rfl hQ d_Rd_spelling_47
        · skip
          rcases Decidable.em (p1 = 4) with c4 | c4
          · refine lv_tableIn (tgt := 48) C.1.1 C.1.2.1 d_Rd_spelling_1 (by rw [c4]; decide) (by rw [c4]; decide) (by rw [c4]; rfl) (by decide) ?_
            refine va_ldcS (own := "LentAir$Reader") C.1.1 C.1.2.1 C.1.2.2.2.1 hE.2.2.2.1.2.2.2.2.1 d_Rd_spelling_48 ?_
            exact x_aret C (Or.inl ⟨_, rfl⟩) hW (by rw [c4]; rfl) rfl hQ d_Rd_spelling_50
          · skip
            have htb : p1.toInt < 0 ∨ 4 < p1.toInt := by
              refine tsw_out (fun z h1 h2 e => ?_)
              have hz : z = 0 ∨ z = 1 ∨ z = 2 ∨ z = 3 ∨ z = 4 := by omega
              rcases hz with rfl | rfl | rfl | rfl | rfl
              · exact c0 (tsw e)
              · exact c1 (tsw e)
              · exact c2 (tsw e)
              · exact c3 (tsw e)
              · exact c4 (tsw e)
            refine lv_tableOut (tgt := 51) C.1.1 C.1.2.1 d_Rd_spelling_1 htb (by decide) ?_
            refine va_ldcS (own := "LentAir$Reader") C.1.1 C.1.2.1 C.1.2.2.2.1 hE.2.2.2.1.2.2.2.2.2 d_Rd_spelling_51 ?_
            exact x_aret C (Or.inl ⟨_, rfl⟩) hW (by unfold f_Rd_spelling; rw [if_neg c0, if_neg c1, if_neg c2, if_neg c3, if_neg c4]) rfl hQ d_Rd_spelling_53
set_option maxHeartbeats 4000000 in
set_option maxRecDepth 100000 in
theorem c_Rd_isAtPlace (l : Launch) (G : Gl) (aR : Nat) (aR_text : Nat) (aR_numbers : Nat) (R_length : Int32) (R_land : Nat) (R_place : Int32) (R_end : Int32) (R_token : Int32) (R_text : Nat → Int32) (w : Nat) (hw : w < 6) {res : Int32} (h : f_Rd_isAtPlace R_length R_place R_end R_text w = some res) : Ct l y_Rd_isAtPlace b_Rd_isAtPlace 3 (some .boolean) 4 85 G [.ref aR, .ref (gK G w)] [(aR, .inr (1, [.ref aR_text, .int R_length, .ref R_land, .int R_place, .int R_end, .int R_token, .ref aR_numbers])), (aR_text, .inl (gB G, 150, .inl R_text))] (some (.int res)) [(aR, .inr (1, [.ref aR_text, .int R_length, .ref R_land, .int R_place, .int R_end, .int R_token, .ref aR_numbers])), (aR_text, .inl (gB G, 150, .inl R_text))] := by
  refine Ct.mk (by decide) (Nat.le_of_ble_eq_true rfl) ?_
  intro p e s m args below meth c ls A Q C hE hW hl hQ
  have C : Cx p s args m c meth "LentAir$Reader" y_Rd_isAtPlace b_Rd_isAtPlace 3 (some .boolean) := C
  have hl : lv_has ls 3 [(0, .ref aR), (1, .ref (gK G w))] := hl
  unfold f_Rd_isAtPlace at h
  refine lv_aload_n C.1.1 C.1.2.1 d_Rd_isAtPlace_0 rfl (lv_at hl 0 rfl) ?_
  refine x_get C hE hW fl_Rd_27 0 rfl rfl d_Rd_isAtPlace_1 ?_
  refine lv_aload_n C.1.1 C.1.2.1 d_Rd_isAtPlace_4 rfl (lv_at hl 0 rfl) ?_
  refine x_get C hE hW fl_Rd_40 0 rfl rfl d_Rd_isAtPlace_5 ?_
  refine lv_isub C.1.1 C.1.2.1 d_Rd_isAtPlace_8 ?_
  refine lv_aload_n C.1.1 C.1.2.1 d_Rd_isAtPlace_9 rfl (lv_at hl 1 rfl) ?_
  refine x_callK (ws' := [(aR, .inr (1, [.ref aR_text, .int R_length, .ref R_land, .int R_place, .int R_end, .int R_token, .ref aR_numbers])), (aR_text, .inl (gB G, 150, .inl R_text))]) (stk := [.int (Int32.ofNat (sLen.getD w 0)), .int (R_end - R_place)]) (rest := [.int (R_end - R_place)]) (As := []) C hE hW (c_JS_length l G w hw) cv_JS_length tw466 hl rfl rfl (Nat.le_of_ble_eq_true rfl) (va_Orecv (hE.str hw).1 hW.2.2.1) ⟨Nat.le_of_ble_eq_true rfl, Nat.le_of_ble_eq_true rfl⟩ ⟨Nat.zero_le _, Nat.zero_le _⟩ [] [0, 1] [0, 1] rfl rfl rfl (by decide) rfl rfl rfl rfl d_Rd_isAtPlace_10 (fun H locs hW => ?_)
  refine lv_icmp_eq (tgt := 18) C.1.1 C.1.2.1 d_Rd_isAtPlace_13 (by decide) (fun cc => ?_) (fun cc => ?_)
  · replace h := it_t cc h
    refine lv_iconst (v := 0) C.1.1 C.1.2.1 d_Rd_isAtPlace_18 (by decide) ?_
    refine lv_istore_n (lv' := [(2, .int 0), (0, .ref aR), (1, .ref (gK G w))]) C.1.1 C.1.2.1 d_Rd_isAtPlace_19 rfl hl (by decide) rfl (fun ls hl => ?_)
    refine lp_at (P := fun (x1 : Int32) => ∀ (H : Heap) (locs : List Loc) (ls : Array Slot), Wd G A s.heap H locs [(aR, .inr (1, [.ref aR_text, .int R_length, .ref R_land, .int R_place, .int R_end, .int R_token, .ref aR_numbers])), (aR_text, .inl (gB G, 150, .inl R_text))] → lv_has ls 3 [(0, .ref aR), (1, .ref (gK G w)), (2, .int x1)] → W p l e (RM 4 85) s m args below meth c H locs 0 0 Q (F0 m 20 ls [])) ?_ FU _ h _ _ _ hW (lv_sub hl [1, 2, 0] rfl)
    clear h hl hW
    intro rec20 ih20
    intro x1 h
    unfold f_Rd_isAtPlace_L20 at h
    intro H locs ls hW hl
    refine lv_iload_n C.1.1 C.1.2.1 d_Rd_isAtPlace_20 rfl (lv_at hl 2 rfl) ?_
    refine lv_aload_n C.1.1 C.1.2.1 d_Rd_isAtPlace_21 rfl (lv_at hl 1 rfl) ?_
    refine x_callK (ws' := [(aR, .inr (1, [.ref aR_text, .int R_length, .ref R_land, .int R_place, .int R_end, .int R_token, .ref aR_numbers])), (aR_text, .inl (gB G, 150, .inl R_text))]) (stk := [.int (Int32.ofNat (sLen.getD w 0)), .int x1]) (rest := [.int x1]) (As := []) C hE hW (c_JS_length l G w hw) cv_JS_length tw466 hl rfl rfl (Nat.le_of_ble_eq_true rfl) (va_Orecv (hE.str hw).1 hW.2.2.1) ⟨Nat.le_of_ble_eq_true rfl, Nat.le_of_ble_eq_true rfl⟩ ⟨Nat.zero_le _, Nat.zero_le _⟩ [] [0, 1] [0, 1] rfl rfl rfl (by decide) rfl rfl rfl rfl d_Rd_isAtPlace_22 (fun H locs hW => ?_)
    refine lv_icmp_ge (tgt := 54) C.1.1 C.1.2.1 d_Rd_isAtPlace_25 (by decide) (fun cc => ?_) (fun cc => ?_)
    · replace h := it_t cc h
      refine lv_iconst (v := 1) C.1.1 C.1.2.1 d_Rd_isAtPlace_54 (by decide) ?_
      obtain rfl := Option.some.inj h
      exact x_zret C hW rfl rfl rfl hQ d_Rd_isAtPlace_55
    · replace h := it_f cc h
      refine lv_aload_n C.1.1 C.1.2.1 d_Rd_isAtPlace_28 rfl (lv_at hl 0 rfl) ?_
      refine lv_aload_n C.1.1 C.1.2.1 d_Rd_isAtPlace_29 rfl (lv_at hl 0 rfl) ?_
      refine x_get C hE hW fl_Rd_40 0 rfl rfl d_Rd_isAtPlace_30 ?_
      refine lv_iload_n C.1.1 C.1.2.1 d_Rd_isAtPlace_33 rfl (lv_at hl 2 rfl) ?_
      refine lv_iadd C.1.1 C.1.2.1 d_Rd_isAtPlace_34 ?_
      obtain ⟨x2, hc1, h⟩ := bd_at h
      refine x_callV (ws' := [(aR, .inr (1, [.ref aR_text, .int R_length, .ref R_land, .int R_place, .int R_end, .int R_token, .ref aR_numbers])), (aR_text, .inl (gB G, 150, .inl R_text))]) (stk := [.int x2]) (rest := []) (As := [.int (R_place + x1)]) (q0 := 0) C hE hW (c_Rd_at l G aR aR_text aR_numbers R_length R_land R_place R_end R_token R_text (R_place + x1) hc1) cv_Rd_at tw435 hl rfl rfl (Nat.le_of_ble_eq_true rfl) rfl rfl rfl ⟨Nat.le_of_ble_eq_true rfl, Nat.le_of_ble_eq_true rfl⟩ ⟨Nat.zero_le _, Nat.zero_le _⟩ [0, 1] [] [0, 1] rfl rfl rfl (by decide) rfl rfl rfl rfl d_Rd_isAtPlace_35 (fun H locs hW => ?_)
      obtain ⟨hg, h⟩ := gd_at h
      refine lv_aload_n C.1.1 C.1.2.1 d_Rd_isAtPlace_38 rfl (lv_at hl 1 rfl) ?_
      refine lv_iload_n C.1.1 C.1.2.1 d_Rd_isAtPlace_39 rfl (lv_at hl 2 rfl) ?_
      refine x_callK (ws' := [(aR, .inr (1, [.ref aR_text, .int R_length, .ref R_land, .int R_place, .int R_end, .int R_token, .ref aR_numbers])), (aR_text, .inl (gB G, 150, .inl R_text))]) (stk := [.int (sCh w x1.toNatClampNeg), .int x2]) (rest := [.int x2]) (As := [.int x1]) C hE hW (c_JS_charAt l G w hw x1 hg) cv_JS_charAt tw476 hl rfl rfl (Nat.le_of_ble_eq_true rfl) (va_Orecv (hE.str hw).1 hW.2.2.1) ⟨Nat.le_of_ble_eq_true rfl, Nat.le_of_ble_eq_true rfl⟩ ⟨Nat.zero_le _, Nat.zero_le _⟩ [] [0, 1] [0, 1] rfl rfl rfl (by decide) rfl rfl rfl rfl d_Rd_isAtPlace_40 (fun H locs hW => ?_)
      refine lv_icmp_eq (tgt := 48) C.1.1 C.1.2.1 d_Rd_isAtPlace_43 (by decide) (fun cc => ?_) (fun cc => ?_)
      · replace h := it_t cc h
        obtain ⟨x3, ex3⟩ : ∃ y : Int32, y = x1 + 1 := ⟨_, rfl⟩
        replace h := lt_at ex3 h
        refine lv_iinc (v := x3) (lv' := [(2, .int x3), (0, .ref aR), (1, .ref (gK G w))]) C.1.1 C.1.2.1 d_Rd_isAtPlace_48 hl (k := 2) rfl (by rw [ex3]; rfl) (by decide) rfl (fun ls hl => ?_)
        refine lv_goto (tgt := 20) C.1.1 C.1.2.1 d_Rd_isAtPlace_51 (by decide) ?_
        exact ih20 _ h _ _ _ hW (lv_sub hl [1, 2, 0] rfl)
      · replace h := it_f cc h
        refine lv_iconst (v := 0) C.1.1 C.1.2.1 d_Rd_isAtPlace_46 (by decide) ?_
        obtain rfl := Option.some.inj h
        exact x_zret C hW rfl rfl rfl hQ d_Rd_isAtPlace_47
  · replace h := it_f cc h
    refine lv_iconst (v := 0) C.1.1 C.1.2.1 d_Rd_isAtPlace_16 (by decide) ?_
    obtain rfl := Option.some.inj h
    exact x_zret C hW rfl rfl rfl hQ d_Rd_isAtPlace_17
set_option maxHeartbeats 4000000 in
set_option maxRecDepth 100000 in
theorem c_Rd_wordAtPlace (l : Launch) (G : Gl) (aR : Nat) (aR_text : Nat) (aR_numbers : Nat) (R_length : Int32) (R_land : Nat) (R_place : Int32) (R_end : Int32) (R_token : Int32) (R_text : Nat → Int32) {res : Int32} (h : f_Rd_wordAtPlace R_length R_place R_end R_text = some res) : Ct l y_Rd_wordAtPlace b_Rd_wordAtPlace 2 (some .int) 5 107 G [.ref aR] [(aR, .inr (1, [.ref aR_text, .int R_length, .ref R_land, .int R_place, .int R_end, .int R_token, .ref aR_numbers])), (aR_text, .inl (gB G, 150, .inl R_text))] (some (.int res)) [(aR, .inr (1, [.ref aR_text, .int R_length, .ref R_land, .int R_place, .int R_end, .int R_token, .ref aR_numbers])), (aR_text, .inl (gB G, 150, .inl R_text))] := by
  refine Ct.mk (by decide) (Nat.le_of_ble_eq_true rfl) ?_
  intro p e s m args below meth c ls A Q C hE hW hl hQ
  have C : Cx p s args m c meth "LentAir$Reader" y_Rd_wordAtPlace b_Rd_wordAtPlace 2 (some .int) := C
  have hl : lv_has ls 2 [(0, .ref aR)] := hl
  unfold f_Rd_wordAtPlace at h
  refine lv_iconst (v := 0) C.1.1 C.1.2.1 d_Rd_wordAtPlace_0 (by decide) ?_
  refine lv_istore_n (lv' := [(1, .int 0), (0, .ref aR)]) C.1.1 C.1.2.1 d_Rd_wordAtPlace_1 rfl hl (by decide) rfl (fun ls hl => ?_)
  refine lp_at (P := fun (x1 : Int32) => ∀ (H : Heap) (locs : List Loc) (ls : Array Slot), Wd G A s.heap H locs [(aR, .inr (1, [.ref aR_text, .int R_length, .ref R_land, .int R_place, .int R_end, .int R_token, .ref aR_numbers])), (aR_text, .inl (gB G, 150, .inl R_text))] → lv_has ls 2 [(0, .ref aR), (1, .int x1)] → W p l e (RM 5 107) s m args below meth c H locs 0 0 Q (F0 m 2 ls [])) ?_ FU _ h _ _ _ hW (lv_sub hl [1, 0] rfl)
  clear h hl hW
  intro rec2 ih2
  intro x1 h
  unfold f_Rd_wordAtPlace_L2 at h
  intro H locs ls hW hl
  refine lv_iload_n C.1.1 C.1.2.1 d_Rd_wordAtPlace_2 rfl (lv_at hl 1 rfl) ?_
  refine lv_bipush (v := 6) C.1.1 C.1.2.1 d_Rd_wordAtPlace_3 (by decide) ?_
  refine lv_icmp_ge (tgt := 27) C.1.1 C.1.2.1 d_Rd_wordAtPlace_5 (by decide) (fun cc => ?_) (fun cc => ?_)
  · replace h := it_t cc h
    refine lv_bipush (v := 6) C.1.1 C.1.2.1 d_Rd_wordAtPlace_27 (by decide) ?_
    obtain rfl := Option.some.inj h
    exact x_iret C hW rfl rfl hQ d_Rd_wordAtPlace_29
  · replace h := it_f cc h
    obtain ⟨x2, hc1, h⟩ := bd_at h
    refine lv_aload_n C.1.1 C.1.2.1 d_Rd_wordAtPlace_8 rfl (lv_at hl 0 rfl) ?_
    refine lv_iload_n C.1.1 C.1.2.1 d_Rd_wordAtPlace_9 rfl (lv_at hl 1 rfl) ?_
    refine x_callS (ws' := [(aR, .inr (1, [.ref aR_text, .int R_length, .ref R_land, .int R_place, .int R_end, .int R_token, .ref aR_numbers])), (aR_text, .inl (gB G, 150, .inl R_text))]) (stk := [.ref (gK G (f_Rd_spelling x1)), .ref aR]) (rest := [.ref aR]) (As := [.int x1]) C hE hW (c_Rd_spelling l G x1) cv_Rd_spelling tw453 hl rfl rfl (Nat.le_of_ble_eq_true rfl) ⟨Nat.le_of_ble_eq_true rfl, Nat.le_of_ble_eq_true rfl⟩ ⟨Nat.zero_le _, Nat.zero_le _⟩ [] [0, 1] [0, 1] rfl rfl rfl (by decide) rfl rfl rfl rfl d_Rd_wordAtPlace_10 (fun H locs hW => ?_)
    refine x_callV (ws' := [(aR, .inr (1, [.ref aR_text, .int R_length, .ref R_land, .int R_place, .int R_end, .int R_token, .ref aR_numbers])), (aR_text, .inl (gB G, 150, .inl R_text))]) (stk := [.int x2]) (rest := []) (As := [.ref (gK G (f_Rd_spelling x1))]) (q0 := 0) C hE hW (c_Rd_isAtPlace l G aR aR_text aR_numbers R_length R_land R_place R_end R_token R_text (f_Rd_spelling x1) (f_sp_lt x1) hc1) cv_Rd_isAtPlace tw462 hl rfl rfl (Nat.le_of_ble_eq_true rfl) rfl rfl rfl ⟨Nat.le_of_ble_eq_true rfl, Nat.le_of_ble_eq_true rfl⟩ ⟨Nat.zero_le _, Nat.zero_le _⟩ [0, 1] [] [0, 1] rfl rfl rfl (by decide) rfl rfl rfl rfl d_Rd_wordAtPlace_13 (fun H locs hW => ?_)
    refine lv_if_eq (tgt := 21) C.1.1 C.1.2.1 d_Rd_wordAtPlace_16 (by decide) (fun cc => ?_) (fun cc => ?_)
    · replace h := it_t cc h
      obtain ⟨x3, ex3⟩ : ∃ y : Int32, y = x1 + 1 := ⟨_, rfl⟩
      replace h := lt_at ex3 h
      refine lv_iinc (v := x3) (lv' := [(1, .int x3), (0, .ref aR)]) C.1.1 C.1.2.1 d_Rd_wordAtPlace_21 hl (k := 1) rfl (by rw [ex3]; rfl) (by decide) rfl (fun ls hl => ?_)
      refine lv_goto (tgt := 2) C.1.1 C.1.2.1 d_Rd_wordAtPlace_24 (by decide) ?_
      exact ih2 _ h _ _ _ hW (lv_sub hl [1, 0] rfl)
    · replace h := it_f cc h
      refine lv_iload_n C.1.1 C.1.2.1 d_Rd_wordAtPlace_19 rfl (lv_at hl 1 rfl) ?_
      obtain rfl := Option.some.inj h
      exact x_iret C hW rfl rfl hQ d_Rd_wordAtPlace_20
set_option maxHeartbeats 4000000 in
set_option maxRecDepth 100000 in
theorem c_Rd_isTooMany (l : Launch) (G : Gl) (aN : Nat) (aN_grounds : Nat) (aN_airs : Nat) (aN_tolds : Nat) (aN_fees : Nat) (aN_lets : Nat) (aN_kinds : Nat) (aN_cells : Nat) (aN_selves : Nat) (aN_cries : Nat) (aN_parts : Nat) (aN_past : Nat) (aR : Nat) (aR_text : Nat) (aR_numbers : Nat) (N_width : Int32) (N_height : Int32) (N_everywhere : Int64) (N_firstColumn : Int64) (N_lastColumn : Int64) (N_makers : Int32) (N_leaves : Int32) (N_pasts : Int32) (R_length : Int32) (R_place : Int32) (R_end : Int32) (R_token : Int32) (p1 : Int32) {res : Int32} (h : f_Rd_isTooMany N_makers N_leaves p1 = some res) : Ct l y_Rd_isTooMany b_Rd_isTooMany 2 (some .boolean) 0 0 G [.ref aR, .int p1] [(aN, .inr (0, [.int N_width, .int N_height, .long N_everywhere, .long N_firstColumn, .long N_lastColumn, .ref aN_grounds, .ref aN_airs, .ref aN_tolds, .ref aN_fees, .ref aN_lets, .int N_makers, .ref aN_kinds, .ref aN_cells, .ref aN_selves, .ref aN_cries, .int N_leaves, .ref aN_parts, .int N_pasts, .ref aN_past])), (aR, .inr (1, [.ref aR_text, .int R_length, .ref aN, .int R_place, .int R_end, .int R_token, .ref aR_numbers]))] (some (.int res)) [(aN, .inr (0, [.int N_width, .int N_height, .long N_everywhere, .long N_firstColumn, .long N_lastColumn, .ref aN_grounds, .ref aN_airs, .ref aN_tolds, .ref aN_fees, .ref aN_lets, .int N_makers, .ref aN_kinds, .ref aN_cells, .ref aN_selves, .ref aN_cries, .int N_leaves, .ref aN_parts, .int N_pasts, .ref aN_past])), (aR, .inr (1, [.ref aR_text, .int R_length, .ref aN, .int R_place, .int R_end, .int R_token, .ref aR_numbers]))] := by
  refine Ct.mk (by decide) (Nat.le_of_ble_eq_true rfl) ?_
  intro p e s m args below meth c ls A Q C hE hW hl hQ
  have C : Cx p s args m c meth "LentAir$Reader" y_Rd_isTooMany b_Rd_isTooMany 2 (some .boolean) := C
  have hl : lv_has ls 2 [(0, .ref aR), (1, .int p1)] := hl
  unfold f_Rd_isTooMany at h
  refine lv_iload_n C.1.1 C.1.2.1 d_Rd_isTooMany_0 rfl (lv_at hl 1 rfl) ?_
  refine lv_iconst (v := 4) C.1.1 C.1.2.1 d_Rd_isTooMany_1 (by decide) ?_
  refine jn_at (P := fun (_ : Unit) => ∀ (H : Heap) (locs : List Loc) (ls : Array Slot), Wd G A s.heap H locs [(aN, .inr (0, [.int N_width, .int N_height, .long N_everywhere, .long N_firstColumn, .long N_lastColumn, .ref aN_grounds, .ref aN_airs, .ref aN_tolds, .ref aN_fees, .ref aN_lets, .int N_makers, .ref aN_kinds, .ref aN_cells, .ref aN_selves, .ref aN_cries, .int N_leaves, .ref aN_parts, .int N_pasts, .ref aN_past])), (aR, .inr (1, [.ref aR_text, .int R_length, .ref aN, .int R_place, .int R_end, .int R_token, .ref aR_numbers]))] → lv_has ls 2 [] → W p l e (RM 0 0) s m args below meth c H locs 0 0 Q (F0 m 34 ls [])) h ?_ ?_
  · skip
    intro _ h
    intro H locs ls hW hl
    refine lv_iconst (v := 1) C.1.1 C.1.2.1 d_Rd_isTooMany_34 (by decide) ?_
    refine lv_goto (tgt := 39) C.1.1 C.1.2.1 d_Rd_isTooMany_35 (by decide) ?_
    obtain rfl := Option.some.inj h
    exact x_zret C hW rfl rfl rfl hQ d_Rd_isTooMany_39
  · intro J34 hJ34 h
    refine jn_at (P := fun (_ : Unit) => ∀ (H : Heap) (locs : List Loc) (ls : Array Slot), Wd G A s.heap H locs [(aN, .inr (0, [.int N_width, .int N_height, .long N_everywhere, .long N_firstColumn, .long N_lastColumn, .ref aN_grounds, .ref aN_airs, .ref aN_tolds, .ref aN_fees, .ref aN_lets, .int N_makers, .ref aN_kinds, .ref aN_cells, .ref aN_selves, .ref aN_cries, .int N_leaves, .ref aN_parts, .int N_pasts, .ref aN_past])), (aR, .inr (1, [.ref aR_text, .int R_length, .ref aN, .int R_place, .int R_end, .int R_token, .ref aR_numbers]))] → lv_has ls 2 [(0, .ref aR), (1, .int p1)] → W p l e (RM 0 0) s m args below meth c H locs 0 0 Q (F0 m 17 ls [])) h ?_ ?_
    · skip
      intro _ h
      intro H locs ls hW hl
      refine lv_iload_n C.1.1 C.1.2.1 d_Rd_isTooMany_17 rfl (lv_at hl 1 rfl) ?_
      refine lv_iconst (v := 5) C.1.1 C.1.2.1 d_Rd_isTooMany_18 (by decide) ?_
      refine lv_icmp_ne (tgt := 38) C.1.1 C.1.2.1 d_Rd_isTooMany_19 (by decide) (fun cc => ?_) (fun cc => ?_)
      · replace h := it_f cc h
        refine lv_iconst (v := 0) C.1.1 C.1.2.1 d_Rd_isTooMany_38 (by decide) ?_
        obtain rfl := Option.some.inj h
        exact x_zret C hW rfl rfl rfl hQ d_Rd_isTooMany_39
      · replace h := it_t cc h
        refine lv_aload_n C.1.1 C.1.2.1 d_Rd_isTooMany_22 rfl (lv_at hl 0 rfl) ?_
        refine x_get C hE hW fl_Rd_19 1 rfl rfl d_Rd_isTooMany_23 ?_
        refine x_get C hE hW fl_Rd_74 0 rfl rfl d_Rd_isTooMany_26 ?_
        refine lv_bipush (v := 8) C.1.1 C.1.2.1 d_Rd_isTooMany_29 (by decide) ?_
        refine lv_icmp_lt (tgt := 38) C.1.1 C.1.2.1 d_Rd_isTooMany_31 (by decide) (fun cc => ?_) (fun cc => ?_)
        · replace h := it_t cc h
          refine lv_iconst (v := 0) C.1.1 C.1.2.1 d_Rd_isTooMany_38 (by decide) ?_
          obtain rfl := Option.some.inj h
          exact x_zret C hW rfl rfl rfl hQ d_Rd_isTooMany_39
        · replace h := it_f cc h
          exact hJ34 _ h _ _ _ hW (lv_sub hl [] rfl)
    · intro J17 hJ17 h
      refine lv_icmp_ne (tgt := 17) C.1.1 C.1.2.1 d_Rd_isTooMany_2 (by decide) (fun cc => ?_) (fun cc => ?_)
      · replace h := it_f cc h
        exact hJ17 _ h _ _ _ hW (lv_sub hl [0, 1] rfl)
      · replace h := it_t cc h
        refine lv_aload_n C.1.1 C.1.2.1 d_Rd_isTooMany_5 rfl (lv_at hl 0 rfl) ?_
        refine x_get C hE hW fl_Rd_19 1 rfl rfl d_Rd_isTooMany_6 ?_
        refine x_get C hE hW fl_Rd_69 0 rfl rfl d_Rd_isTooMany_9 ?_
        refine lv_bipush (v := 6) C.1.1 C.1.2.1 d_Rd_isTooMany_12 (by decide) ?_
        refine lv_icmp_ge (tgt := 34) C.1.1 C.1.2.1 d_Rd_isTooMany_14 (by decide) (fun cc => ?_) (fun cc => ?_)
        · replace h := it_t cc h
          exact hJ34 _ h _ _ _ hW (lv_sub hl [] rfl)
        · replace h := it_f cc h
          exact hJ17 _ h _ _ _ hW (lv_sub hl [0, 1] rfl)
set_option maxHeartbeats 4000000 in
set_option maxRecDepth 100000 in
theorem c_Rd_numbersOf (l : Launch) (G : Gl) (p1 : Int32) {res : Int32} (h : f_Rd_numbersOf p1 = some res) : Ct l y_Rd_numbersOf b_Rd_numbersOf 1 (some .int) 0 0 G [.int p1] [] (some (.int res)) [] := by
  refine Ct.mk (by decide) (Nat.le_of_ble_eq_true rfl) ?_
  intro p e s m args below meth c ls A Q C hE hW hl hQ
  have C : Cx p s args m c meth "LentAir$Reader" y_Rd_numbersOf b_Rd_numbersOf 1 (some .int) := C
  have hl : lv_has ls 1 [(0, .int p1)] := hl
  unfold f_Rd_numbersOf at h
  refine lv_iload_n C.1.1 C.1.2.1 d_Rd_numbersOf_0 rfl (lv_at hl 0 rfl) ?_
  refine lv_iconst (v := 5) C.1.1 C.1.2.1 d_Rd_numbersOf_1 (by decide) ?_
  refine lv_icmp_ne (tgt := 9) C.1.1 C.1.2.1 d_Rd_numbersOf_2 (by decide) (fun cc => ?_) (fun cc => ?_)
  · replace h := it_f cc h
    refine lv_iload_n C.1.1 C.1.2.1 d_Rd_numbersOf_9 rfl (lv_at hl 0 rfl) ?_
    refine lv_iconst (v := 4) C.1.1 C.1.2.1 d_Rd_numbersOf_10 (by decide) ?_
    refine lv_icmp_ne (tgt := 18) C.1.1 C.1.2.1 d_Rd_numbersOf_11 (by decide) (fun cc => ?_) (fun cc => ?_)
    · replace h := it_f cc h
      refine lv_iconst (v := 2) C.1.1 C.1.2.1 d_Rd_numbersOf_18 (by decide) ?_
      obtain rfl := Option.some.inj h
      exact x_iret C hW rfl rfl hQ d_Rd_numbersOf_19
    · replace h := it_t cc h
      refine lv_iconst (v := 3) C.1.1 C.1.2.1 d_Rd_numbersOf_14 (by decide) ?_
      refine lv_goto (tgt := 19) C.1.1 C.1.2.1 d_Rd_numbersOf_15 (by decide) ?_
      obtain rfl := Option.some.inj h
      exact x_iret C hW rfl rfl hQ d_Rd_numbersOf_19
  · replace h := it_t cc h
    refine lv_iconst (v := 5) C.1.1 C.1.2.1 d_Rd_numbersOf_5 (by decide) ?_
    refine lv_goto (tgt := 19) C.1.1 C.1.2.1 d_Rd_numbersOf_6 (by decide) ?_
    obtain rfl := Option.some.inj h
    exact x_iret C hW rfl rfl hQ d_Rd_numbersOf_19
set_option maxHeartbeats 4000000 in
set_option maxRecDepth 100000 in
theorem c_Rd_numberAtPlace (l : Launch) (G : Gl) (aR : Nat) (aR_text : Nat) (aR_numbers : Nat) (R_length : Int32) (R_land : Nat) (R_place : Int32) (R_end : Int32) (R_token : Int32) (R_text : Nat → Int32) {res : Int32} (h : f_Rd_numberAtPlace R_length R_place R_end R_text = some res) : Ct l y_Rd_numberAtPlace b_Rd_numberAtPlace 3 (some .int) 1 21 G [.ref aR] [(aR, .inr (1, [.ref aR_text, .int R_length, .ref R_land, .int R_place, .int R_end, .int R_token, .ref aR_numbers])), (aR_text, .inl (gB G, 150, .inl R_text))] (some (.int res)) [(aR, .inr (1, [.ref aR_text, .int R_length, .ref R_land, .int R_place, .int R_end, .int R_token, .ref aR_numbers])), (aR_text, .inl (gB G, 150, .inl R_text))] := by
  refine Ct.mk (by decide) (Nat.le_of_ble_eq_true rfl) ?_
  intro p e s m args below meth c ls A Q C hE hW hl hQ
  have C : Cx p s args m c meth "LentAir$Reader" y_Rd_numberAtPlace b_Rd_numberAtPlace 3 (some .int) := C
  have hl : lv_has ls 3 [(0, .ref aR)] := hl
  unfold f_Rd_numberAtPlace at h
  refine lv_iconst (v := 0) C.1.1 C.1.2.1 d_Rd_numberAtPlace_0 (by decide) ?_
  refine lv_istore_n (lv' := [(1, .int 0), (0, .ref aR)]) C.1.1 C.1.2.1 d_Rd_numberAtPlace_1 rfl hl (by decide) rfl (fun ls hl => ?_)
  refine lv_aload_n C.1.1 C.1.2.1 d_Rd_numberAtPlace_2 rfl (lv_at hl 1 rfl) ?_
  refine x_get C hE hW fl_Rd_40 0 rfl rfl d_Rd_numberAtPlace_3 ?_
  refine lv_istore_n (lv' := [(2, .int R_place), (1, .int 0), (0, .ref aR)]) C.1.1 C.1.2.1 d_Rd_numberAtPlace_6 rfl hl (by decide) rfl (fun ls hl => ?_)
  refine lp_at (P := fun ((x1, x2) : Int32 × Int32) => ∀ (H : Heap) (locs : List Loc) (ls : Array Slot), Wd G A s.heap H locs [(aR, .inr (1, [.ref aR_text, .int R_length, .ref R_land, .int R_place, .int R_end, .int R_token, .ref aR_numbers])), (aR_text, .inl (gB G, 150, .inl R_text))] → lv_has ls 3 [(0, .ref aR), (1, .int x1), (2, .int x2)] → W p l e (RM 1 21) s m args below meth c H locs 0 0 Q (F0 m 7 ls [])) ?_ FU _ h _ _ _ hW (lv_sub hl [2, 1, 0] rfl)
  clear h hl hW
  intro rec7 ih7
  intro x h
  obtain ⟨x1, x2⟩ := x
  unfold f_Rd_numberAtPlace_L7 at h
  intro H locs ls hW hl
  refine lv_iload_n C.1.1 C.1.2.1 d_Rd_numberAtPlace_7 rfl (lv_at hl 2 rfl) ?_
  refine lv_aload_n C.1.1 C.1.2.1 d_Rd_numberAtPlace_8 rfl (lv_at hl 0 rfl) ?_
  refine x_get C hE hW fl_Rd_27 0 rfl rfl d_Rd_numberAtPlace_9 ?_
  refine lv_icmp_ge (tgt := 35) C.1.1 C.1.2.1 d_Rd_numberAtPlace_12 (by decide) (fun cc => ?_) (fun cc => ?_)
  · replace h := it_t cc h
    refine lv_iload_n C.1.1 C.1.2.1 d_Rd_numberAtPlace_35 rfl (lv_at hl 1 rfl) ?_
    obtain rfl := Option.some.inj h
    exact x_iret C hW rfl rfl hQ d_Rd_numberAtPlace_36
  · replace h := it_f cc h
    refine lv_bipush (v := 10) C.1.1 C.1.2.1 d_Rd_numberAtPlace_15 (by decide) ?_
    refine lv_iload_n C.1.1 C.1.2.1 d_Rd_numberAtPlace_17 rfl (lv_at hl 1 rfl) ?_
    refine lv_imul C.1.1 C.1.2.1 d_Rd_numberAtPlace_18 ?_
    refine lv_aload_n C.1.1 C.1.2.1 d_Rd_numberAtPlace_19 rfl (lv_at hl 0 rfl) ?_
    refine lv_iload_n C.1.1 C.1.2.1 d_Rd_numberAtPlace_20 rfl (lv_at hl 2 rfl) ?_
    obtain ⟨x3, hc4, h⟩ := bd_at h
    refine x_callV (ws' := [(aR, .inr (1, [.ref aR_text, .int R_length, .ref R_land, .int R_place, .int R_end, .int R_token, .ref aR_numbers])), (aR_text, .inl (gB G, 150, .inl R_text))]) (stk := [.int x3, .int ((10 : Int32) * x1)]) (rest := [.int ((10 : Int32) * x1)]) (As := [.int x2]) (q0 := 0) C hE hW (c_Rd_at l G aR aR_text aR_numbers R_length R_land R_place R_end R_token R_text x2 hc4) cv_Rd_at tw435 hl rfl rfl (Nat.le_of_ble_eq_true rfl) rfl rfl rfl ⟨Nat.le_of_ble_eq_true rfl, Nat.le_of_ble_eq_true rfl⟩ ⟨Nat.zero_le _, Nat.zero_le _⟩ [0, 1] [] [0, 1] rfl rfl rfl (by decide) rfl rfl rfl rfl d_Rd_numberAtPlace_21 (fun H locs hW => ?_)
    refine lv_iadd C.1.1 C.1.2.1 d_Rd_numberAtPlace_24 ?_
    refine lv_bipush (v := 48) C.1.1 C.1.2.1 d_Rd_numberAtPlace_25 (by decide) ?_
    refine lv_isub C.1.1 C.1.2.1 d_Rd_numberAtPlace_27 ?_
    refine lv_topi (fun x5 ex5 => ?_)
    replace h := lt_at ex5 h
    refine lv_istore_n (lv' := [(1, .int x5), (0, .ref aR), (2, .int x2)]) C.1.1 C.1.2.1 d_Rd_numberAtPlace_28 rfl hl (by decide) rfl (fun ls hl => ?_)
    obtain ⟨x6, ex6⟩ : ∃ y : Int32, y = x2 + 1 := ⟨_, rfl⟩
    replace h := lt_at ex6 h
    refine lv_iinc (v := x6) (lv' := [(2, .int x6), (1, .int x5), (0, .ref aR)]) C.1.1 C.1.2.1 d_Rd_numberAtPlace_29 hl (k := 2) rfl (by rw [ex6]; rfl) (by decide) rfl (fun ls hl => ?_)
    refine lv_goto (tgt := 7) C.1.1 C.1.2.1 d_Rd_numberAtPlace_32 (by decide) ?_
    exact ih7 _ h _ _ _ hW (lv_sub hl [2, 1, 0] rfl)
set_option maxHeartbeats 4000000 in
set_option maxRecDepth 100000 in
theorem c_Rd_least (l : Launch) (G : Gl) (aR : Nat) (aR_text : Nat) (aR_numbers : Nat) (R_length : Int32) (R_land : Nat) (R_place : Int32) (R_end : Int32) (R_token : Int32) (R_numbers : Nat → Int32) (p1 : Int32) (p2 : Int32) {res : Int32} (h : f_Rd_least R_numbers p1 p2 = some res) : Ct l y_Rd_least b_Rd_least 3 (some .int) 0 0 G [.ref aR, .int p1, .int p2] [(aR, .inr (1, [.ref aR_text, .int R_length, .ref R_land, .int R_place, .int R_end, .int R_token, .ref aR_numbers])), (aR_numbers, .inl (gI G, 5, .inl R_numbers))] (some (.int res)) [(aR, .inr (1, [.ref aR_text, .int R_length, .ref R_land, .int R_place, .int R_end, .int R_token, .ref aR_numbers])), (aR_numbers, .inl (gI G, 5, .inl R_numbers))] := by
  refine Ct.mk (by decide) (Nat.le_of_ble_eq_true rfl) ?_
  intro p e s m args below meth c ls A Q C hE hW hl hQ
  have C : Cx p s args m c meth "LentAir$Reader" y_Rd_least b_Rd_least 3 (some .int) := C
  have hl : lv_has ls 3 [(0, .ref aR), (1, .int p1), (2, .int p2)] := hl
  unfold f_Rd_least at h
  refine lv_iload_n C.1.1 C.1.2.1 d_Rd_least_0 rfl (lv_at hl 1 rfl) ?_
  refine lv_iconst (v := 5) C.1.1 C.1.2.1 d_Rd_least_1 (by decide) ?_
  refine jn_at (P := fun (_ : Unit) => ∀ (H : Heap) (locs : List Loc) (ls : Array Slot), Wd G A s.heap H locs [(aR, .inr (1, [.ref aR_text, .int R_length, .ref R_land, .int R_place, .int R_end, .int R_token, .ref aR_numbers])), (aR_numbers, .inl (gI G, 5, .inl R_numbers))] → lv_has ls 3 [(1, .int p1), (2, .int p2)] → W p l e (RM 0 0) s m args below meth c H locs 0 0 Q (F0 m 17 ls [])) h ?_ ?_
  · skip
    intro _ h
    intro H locs ls hW hl
    refine lv_iload_n C.1.1 C.1.2.1 d_Rd_least_17 rfl (lv_at hl 0 rfl) ?_
    refine jn_at (P := fun (_ : Unit) => ∀ (H : Heap) (locs : List Loc) (ls : Array Slot), Wd G A s.heap H locs [(aR, .inr (1, [.ref aR_text, .int R_length, .ref R_land, .int R_place, .int R_end, .int R_token, .ref aR_numbers])), (aR_numbers, .inl (gI G, 5, .inl R_numbers))] → lv_has ls 3 [] → W p l e (RM 0 0) s m args below meth c H locs 0 0 Q (F0 m 31 ls [])) h ?_ ?_
    · skip
      intro _ h
      intro H locs ls hW hl
      refine lv_iconst (v := 1) C.1.1 C.1.2.1 d_Rd_least_31 (by decide) ?_
      refine lv_goto (tgt := 36) C.1.1 C.1.2.1 d_Rd_least_32 (by decide) ?_
      obtain rfl := Option.some.inj h
      exact x_iret C hW rfl rfl hQ d_Rd_least_36
    · intro J31 hJ31 h
      refine lv_if_eq (tgt := 31) C.1.1 C.1.2.1 d_Rd_least_18 (by decide) (fun cc => ?_) (fun cc => ?_)
      · replace h := it_t cc h
        exact hJ31 _ h _ _ _ hW (lv_sub hl [] rfl)
      · replace h := it_f cc h
        refine lv_iload_n C.1.1 C.1.2.1 d_Rd_least_21 rfl (lv_at hl 0 rfl) ?_
        refine lv_iconst (v := 5) C.1.1 C.1.2.1 d_Rd_least_22 (by decide) ?_
        refine lv_icmp_ne (tgt := 35) C.1.1 C.1.2.1 d_Rd_least_23 (by decide) (fun cc => ?_) (fun cc => ?_)
        · replace h := it_f cc h
          refine lv_iconst (v := 0) C.1.1 C.1.2.1 d_Rd_least_35 (by decide) ?_
          obtain rfl := Option.some.inj h
          exact x_iret C hW rfl rfl hQ d_Rd_least_36
        · replace h := it_t cc h
          refine lv_iload_n C.1.1 C.1.2.1 d_Rd_least_26 rfl (lv_at hl 1 rfl) ?_
          refine lv_iconst (v := 4) C.1.1 C.1.2.1 d_Rd_least_27 (by decide) ?_
          refine lv_icmp_ne (tgt := 35) C.1.1 C.1.2.1 d_Rd_least_28 (by decide) (fun cc => ?_) (fun cc => ?_)
          · replace h := it_f cc h
            refine lv_iconst (v := 0) C.1.1 C.1.2.1 d_Rd_least_35 (by decide) ?_
            obtain rfl := Option.some.inj h
            exact x_iret C hW rfl rfl hQ d_Rd_least_36
          · replace h := it_t cc h
            exact hJ31 _ h _ _ _ hW (lv_sub hl [] rfl)
  · intro J17 hJ17 h
    refine lv_icmp_ne (tgt := 17) C.1.1 C.1.2.1 d_Rd_least_2 (by decide) (fun cc => ?_) (fun cc => ?_)
    · replace h := it_f cc h
      exact hJ17 _ h _ _ _ hW (lv_sub hl [1, 2] rfl)
    · replace h := it_t cc h
      refine lv_iload_n C.1.1 C.1.2.1 d_Rd_least_5 rfl (lv_at hl 2 rfl) ?_
      refine lv_iconst (v := 3) C.1.1 C.1.2.1 d_Rd_least_6 (by decide) ?_
      refine lv_icmp_ne (tgt := 17) C.1.1 C.1.2.1 d_Rd_least_7 (by decide) (fun cc => ?_) (fun cc => ?_)
      · replace h := it_f cc h
        exact hJ17 _ h _ _ _ hW (lv_sub hl [1, 2] rfl)
      · replace h := it_t cc h
        refine lv_aload_n C.1.1 C.1.2.1 d_Rd_least_10 rfl (lv_at hl 0 rfl) ?_
        refine x_get C hE hW fl_Rd_15 0 rfl rfl d_Rd_least_11 ?_
        refine lv_iconst (v := 2) C.1.1 C.1.2.1 d_Rd_least_14 (by decide) ?_
        refine x_iald C hE hW 1 rfl (inB_in (by decide)) d_Rd_least_15 ?_
        obtain rfl := Option.some.inj h
        exact x_iret C hW rfl rfl hQ d_Rd_least_16
set_option maxHeartbeats 4000000 in
set_option maxRecDepth 100000 in
theorem c_Rd_lastCell (l : Launch) (G : Gl) (aN : Nat) (aN_grounds : Nat) (aN_airs : Nat) (aN_tolds : Nat) (aN_fees : Nat) (aN_lets : Nat) (aN_kinds : Nat) (aN_cells : Nat) (aN_selves : Nat) (aN_cries : Nat) (aN_parts : Nat) (aN_past : Nat) (aR : Nat) (aR_text : Nat) (aR_numbers : Nat) (N_width : Int32) (N_height : Int32) (N_everywhere : Int64) (N_firstColumn : Int64) (N_lastColumn : Int64) (N_makers : Int32) (N_leaves : Int32) (N_pasts : Int32) (R_length : Int32) (R_place : Int32) (R_end : Int32) (R_token : Int32) {res : Int32} (h : f_Rd_lastCell N_width N_height = some res) : Ct l y_Rd_lastCell b_Rd_lastCell 1 (some .int) 0 0 G [.ref aR] [(aN, .inr (0, [.int N_width, .int N_height, .long N_everywhere, .long N_firstColumn, .long N_lastColumn, .ref aN_grounds, .ref aN_airs, .ref aN_tolds, .ref aN_fees, .ref aN_lets, .int N_makers, .ref aN_kinds, .ref aN_cells, .ref aN_selves, .ref aN_cries, .int N_leaves, .ref aN_parts, .int N_pasts, .ref aN_past])), (aR, .inr (1, [.ref aR_text, .int R_length, .ref aN, .int R_place, .int R_end, .int R_token, .ref aR_numbers]))] (some (.int res)) [(aN, .inr (0, [.int N_width, .int N_height, .long N_everywhere, .long N_firstColumn, .long N_lastColumn, .ref aN_grounds, .ref aN_airs, .ref aN_tolds, .ref aN_fees, .ref aN_lets, .int N_makers, .ref aN_kinds, .ref aN_cells, .ref aN_selves, .ref aN_cries, .int N_leaves, .ref aN_parts, .int N_pasts, .ref aN_past])), (aR, .inr (1, [.ref aR_text, .int R_length, .ref aN, .int R_place, .int R_end, .int R_token, .ref aR_numbers]))] := by
  refine Ct.mk (by decide) (Nat.le_of_ble_eq_true rfl) ?_
  intro p e s m args below meth c ls A Q C hE hW hl hQ
  have C : Cx p s args m c meth "LentAir$Reader" y_Rd_lastCell b_Rd_lastCell 1 (some .int) := C
  have hl : lv_has ls 1 [(0, .ref aR)] := hl
  unfold f_Rd_lastCell at h
  refine lv_aload_n C.1.1 C.1.2.1 d_Rd_lastCell_0 rfl (lv_at hl 0 rfl) ?_
  refine x_get C hE hW fl_Rd_19 1 rfl rfl d_Rd_lastCell_1 ?_
  refine x_get C hE hW fl_Rd_83 0 rfl rfl d_Rd_lastCell_4 ?_
  refine lv_aload_n C.1.1 C.1.2.1 d_Rd_lastCell_7 rfl (lv_at hl 0 rfl) ?_
  refine x_get C hE hW fl_Rd_19 1 rfl rfl d_Rd_lastCell_8 ?_
  refine x_get C hE hW fl_Rd_86 0 rfl rfl d_Rd_lastCell_11 ?_
  refine lv_imul C.1.1 C.1.2.1 d_Rd_lastCell_14 ?_
  refine lv_iconst (v := 1) C.1.1 C.1.2.1 d_Rd_lastCell_15 (by decide) ?_
  refine lv_isub C.1.1 C.1.2.1 d_Rd_lastCell_16 ?_
  obtain rfl := Option.some.inj h
  exact x_iret C hW rfl rfl hQ d_Rd_lastCell_17
set_option maxHeartbeats 4000000 in
set_option maxRecDepth 100000 in
theorem c_Rd_mostOfLeave (l : Launch) (G : Gl) (aN : Nat) (aN_grounds : Nat) (aN_airs : Nat) (aN_tolds : Nat) (aN_fees : Nat) (aN_lets : Nat) (aN_kinds : Nat) (aN_cells : Nat) (aN_selves : Nat) (aN_cries : Nat) (aN_parts : Nat) (aN_past : Nat) (aR : Nat) (aR_text : Nat) (aR_numbers : Nat) (N_width : Int32) (N_height : Int32) (N_everywhere : Int64) (N_firstColumn : Int64) (N_lastColumn : Int64) (N_makers : Int32) (N_leaves : Int32) (N_pasts : Int32) (R_length : Int32) (R_place : Int32) (R_end : Int32) (R_token : Int32) (p1 : Int32) {res : Int32} (h : f_Rd_mostOfLeave N_makers p1 = some res) : Ct l y_Rd_mostOfLeave b_Rd_mostOfLeave 2 (some .int) 0 0 G [.ref aR, .int p1] [(aN, .inr (0, [.int N_width, .int N_height, .long N_everywhere, .long N_firstColumn, .long N_lastColumn, .ref aN_grounds, .ref aN_airs, .ref aN_tolds, .ref aN_fees, .ref aN_lets, .int N_makers, .ref aN_kinds, .ref aN_cells, .ref aN_selves, .ref aN_cries, .int N_leaves, .ref aN_parts, .int N_pasts, .ref aN_past])), (aR, .inr (1, [.ref aR_text, .int R_length, .ref aN, .int R_place, .int R_end, .int R_token, .ref aR_numbers]))] (some (.int res)) [(aN, .inr (0, [.int N_width, .int N_height, .long N_everywhere, .long N_firstColumn, .long N_lastColumn, .ref aN_grounds, .ref aN_airs, .ref aN_tolds, .ref aN_fees, .ref aN_lets, .int N_makers, .ref aN_kinds, .ref aN_cells, .ref aN_selves, .ref aN_cries, .int N_leaves, .ref aN_parts, .int N_pasts, .ref aN_past])), (aR, .inr (1, [.ref aR_text, .int R_length, .ref aN, .int R_place, .int R_end, .int R_token, .ref aR_numbers]))] := by
  refine Ct.mk (by decide) (Nat.le_of_ble_eq_true rfl) ?_
  intro p e s m args below meth c ls A Q C hE hW hl hQ
  have C : Cx p s args m c meth "LentAir$Reader" y_Rd_mostOfLeave b_Rd_mostOfLeave 2 (some .int) := C
  have hl : lv_has ls 2 [(0, .ref aR), (1, .int p1)] := hl
  unfold f_Rd_mostOfLeave at h
  refine lv_iload_n C.1.1 C.1.2.1 d_Rd_mostOfLeave_0 rfl (lv_at hl 1 rfl) ?_
  rcases Decidable.em (p1 = 0) with c0 | c0
  · replace h := it_t c0 h
    refine lv_tableIn (tgt := 36) C.1.1 C.1.2.1 d_Rd_mostOfLeave_1 (by rw [c0]; decide) (by rw [c0]; decide) (by rw [c0]; rfl) (by decide) ?_
    refine lv_aload_n C.1.1 C.1.2.1 d_Rd_mostOfLeave_36 rfl (lv_at hl 0 rfl) ?_
    refine x_get C hE hW fl_Rd_19 1 rfl rfl d_Rd_mostOfLeave_37 ?_
    refine x_get C hE hW fl_Rd_69 0 rfl rfl d_Rd_mostOfLeave_40 ?_
    refine lv_iconst (v := 1) C.1.1 C.1.2.1 d_Rd_mostOfLeave_43 (by decide) ?_
    refine lv_isub C.1.1 C.1.2.1 d_Rd_mostOfLeave_44 ?_
    obtain rfl := Option.some.inj h
    exact x_iret C hW rfl rfl hQ d_Rd_mostOfLeave_45
  · replace h := it_f c0 h
    rcases Decidable.em (p1 = 1) with c1 | c1
    · replace h := it_t c1 h
      refine lv_tableIn (tgt := 46) C.1.1 C.1.2.1 d_Rd_mostOfLeave_1 (by rw [c1]; decide) (by rw [c1]; decide) (by rw [c1]; rfl) (by decide) ?_
      refine lv_iconst (v := 5) C.1.1 C.1.2.1 d_Rd_mostOfLeave_46 (by decide) ?_
      obtain rfl := Option.some.inj h
      exact x_iret C hW rfl rfl hQ d_Rd_mostOfLeave_47
    · replace h := it_f c1 h
      rcases Decidable.em (p1 = 4) with c4 | c4
      · replace h := it_t c4 h
        refine lv_tableIn (tgt := 48) C.1.1 C.1.2.1 d_Rd_mostOfLeave_1 (by rw [c4]; decide) (by rw [c4]; decide) (by rw [c4]; rfl) (by decide) ?_
        refine lv_bipush (v := 20) C.1.1 C.1.2.1 d_Rd_mostOfLeave_48 (by decide) ?_
        obtain rfl := Option.some.inj h
        exact x_iret C hW rfl rfl hQ d_Rd_mostOfLeave_50
      · replace h := it_f c4 h
        rcases Decidable.em (p1 = 2) with c2 | c2
        · refine lv_tableIn (tgt := 51) C.1.1 C.1.2.1 d_Rd_mostOfLeave_1 (by rw [c2]; decide) (by rw [c2]; decide) (by rw [c2]; rfl) (by decide) ?_
          refine lv_bipush (v := 23) C.1.1 C.1.2.1 d_Rd_mostOfLeave_51 (by decide) ?_
          obtain rfl := Option.some.inj h
          exact x_iret C hW rfl rfl hQ d_Rd_mostOfLeave_53
        · skip
          rcases Decidable.em (p1 = 3) with c3 | c3
          · refine lv_tableIn (tgt := 51) C.1.1 C.1.2.1 d_Rd_mostOfLeave_1 (by rw [c3]; decide) (by rw [c3]; decide) (by rw [c3]; rfl) (by decide) ?_
            refine lv_bipush (v := 23) C.1.1 C.1.2.1 d_Rd_mostOfLeave_51 (by decide) ?_
            obtain rfl := Option.some.inj h
            exact x_iret C hW rfl rfl hQ d_Rd_mostOfLeave_53
          · skip
            have htb : p1.toInt < 0 ∨ 4 < p1.toInt := by
              refine tsw_out (fun z h1 h2 e => ?_)
              have hz : z = 0 ∨ z = 1 ∨ z = 2 ∨ z = 3 ∨ z = 4 := by omega
              rcases hz with rfl | rfl | rfl | rfl | rfl
              · exact c0 (tsw e)
              · exact c1 (tsw e)
              · exact c2 (tsw e)
              · exact c3 (tsw e)
              · exact c4 (tsw e)
            refine lv_tableOut (tgt := 51) C.1.1 C.1.2.1 d_Rd_mostOfLeave_1 htb (by decide) ?_
            refine lv_bipush (v := 23) C.1.1 C.1.2.1 d_Rd_mostOfLeave_51 (by decide) ?_
            obtain rfl := Option.some.inj h
            exact x_iret C hW rfl rfl hQ d_Rd_mostOfLeave_53
set_option maxHeartbeats 4000000 in
set_option maxRecDepth 100000 in
theorem c_Rd_most (l : Launch) (G : Gl) (aN : Nat) (aN_grounds : Nat) (aN_airs : Nat) (aN_tolds : Nat) (aN_fees : Nat) (aN_lets : Nat) (aN_kinds : Nat) (aN_cells : Nat) (aN_selves : Nat) (aN_cries : Nat) (aN_parts : Nat) (aN_past : Nat) (aR : Nat) (aR_text : Nat) (aR_numbers : Nat) (N_width : Int32) (N_height : Int32) (N_everywhere : Int64) (N_firstColumn : Int64) (N_lastColumn : Int64) (N_makers : Int32) (N_leaves : Int32) (N_pasts : Int32) (R_length : Int32) (R_place : Int32) (R_end : Int32) (R_token : Int32) (p1 : Int32) (p2 : Int32) {res : Int32} (h : f_Rd_most N_width N_height N_makers p1 p2 = some res) : Ct l y_Rd_most b_Rd_most 3 (some .int) 1 21 G [.ref aR, .int p1, .int p2] [(aN, .inr (0, [.int N_width, .int N_height, .long N_everywhere, .long N_firstColumn, .long N_lastColumn, .ref aN_grounds, .ref aN_airs, .ref aN_tolds, .ref aN_fees, .ref aN_lets, .int N_makers, .ref aN_kinds, .ref aN_cells, .ref aN_selves, .ref aN_cries, .int N_leaves, .ref aN_parts, .int N_pasts, .ref aN_past])), (aR, .inr (1, [.ref aR_text, .int R_length, .ref aN, .int R_place, .int R_end, .int R_token, .ref aR_numbers]))] (some (.int res)) [(aN, .inr (0, [.int N_width, .int N_height, .long N_everywhere, .long N_firstColumn, .long N_lastColumn, .ref aN_grounds, .ref aN_airs, .ref aN_tolds, .ref aN_fees, .ref aN_lets, .int N_makers, .ref aN_kinds, .ref aN_cells, .ref aN_selves, .ref aN_cries, .int N_leaves, .ref aN_parts, .int N_pasts, .ref aN_past])), (aR, .inr (1, [.ref aR_text, .int R_length, .ref aN, .int R_place, .int R_end, .int R_token, .ref aR_numbers]))] := by
  refine Ct.mk (by decide) (Nat.le_of_ble_eq_true rfl) ?_
  intro p e s m args below meth c ls A Q C hE hW hl hQ
  have C : Cx p s args m c meth "LentAir$Reader" y_Rd_most b_Rd_most 3 (some .int) := C
  have hl : lv_has ls 3 [(0, .ref aR), (1, .int p1), (2, .int p2)] := hl
  unfold f_Rd_most at h
  refine lv_iload_n C.1.1 C.1.2.1 d_Rd_most_0 rfl (lv_at hl 1 rfl) ?_
  rcases Decidable.em (p1 = 0) with c0 | c0
  · replace h := it_t c0 h
    refine lv_tableIn (tgt := 36) C.1.1 C.1.2.1 d_Rd_most_1 (by rw [c0]; decide) (by rw [c0]; decide) (by rw [c0]; rfl) (by decide) ?_
    refine lv_bipush (v := 6) C.1.1 C.1.2.1 d_Rd_most_36 (by decide) ?_
    obtain rfl := Option.some.inj h
    exact x_iret C hW rfl rfl hQ d_Rd_most_38
  · replace h := it_f c0 h
    rcases Decidable.em (p1 = 1) with c1 | c1
    · replace h := it_t c1 h
      refine lv_tableIn (tgt := 39) C.1.1 C.1.2.1 d_Rd_most_1 (by rw [c1]; decide) (by rw [c1]; decide) (by rw [c1]; rfl) (by decide) ?_
      refine lv_iload_n C.1.1 C.1.2.1 d_Rd_most_39 rfl (lv_at hl 2 rfl) ?_
      refine lv_if_ne (tgt := 50) C.1.1 C.1.2.1 d_Rd_most_40 (by decide) (fun cc => ?_) (fun cc => ?_)
      · replace h := it_f cc h
        refine lv_iconst (v := 2) C.1.1 C.1.2.1 d_Rd_most_50 (by decide) ?_
        obtain rfl := Option.some.inj h
        exact x_iret C hW rfl rfl hQ d_Rd_most_51
      · replace h := it_t cc h
        refine lv_aload_n C.1.1 C.1.2.1 d_Rd_most_43 rfl (lv_at hl 0 rfl) ?_
        obtain ⟨x1, hc2, h⟩ := bd_at h
        refine x_callV (ws' := [(aN, .inr (0, [.int N_width, .int N_height, .long N_everywhere, .long N_firstColumn, .long N_lastColumn, .ref aN_grounds, .ref aN_airs, .ref aN_tolds, .ref aN_fees, .ref aN_lets, .int N_makers, .ref aN_kinds, .ref aN_cells, .ref aN_selves, .ref aN_cries, .int N_leaves, .ref aN_parts, .int N_pasts, .ref aN_past])), (aR, .inr (1, [.ref aR_text, .int R_length, .ref aN, .int R_place, .int R_end, .int R_token, .ref aR_numbers]))]) (stk := [.int x1]) (rest := []) (As := []) (q0 := 1) C hE hW (c_Rd_lastCell l G aN aN_grounds aN_airs aN_tolds aN_fees aN_lets aN_kinds aN_cells aN_selves aN_cries aN_parts aN_past aR aR_text aR_numbers N_width N_height N_everywhere N_firstColumn N_lastColumn N_makers N_leaves N_pasts R_length R_place R_end R_token hc2) cv_Rd_lastCell tw533 hl rfl rfl (Nat.le_of_ble_eq_true rfl) rfl rfl rfl ⟨Nat.le_of_ble_eq_true rfl, Nat.le_of_ble_eq_true rfl⟩ ⟨Nat.zero_le _, Nat.zero_le _⟩ [0, 1] [] [0, 1] rfl rfl rfl (by decide) rfl rfl rfl rfl d_Rd_most_44 (fun H locs hW => ?_)
        refine lv_goto (tgt := 51) C.1.1 C.1.2.1 d_Rd_most_47 (by decide) ?_
        obtain rfl := Option.some.inj h
        exact x_iret C hW rfl rfl hQ d_Rd_most_51
    · replace h := it_f c1 h
      rcases Decidable.em (p1 = 2) with c2 | c2
      · replace h := it_t c2 h
        refine lv_tableIn (tgt := 52) C.1.1 C.1.2.1 d_Rd_most_1 (by rw [c2]; decide) (by rw [c2]; decide) (by rw [c2]; rfl) (by decide) ?_
        refine lv_iload_n C.1.1 C.1.2.1 d_Rd_most_52 rfl (lv_at hl 2 rfl) ?_
        refine lv_if_ne (tgt := 63) C.1.1 C.1.2.1 d_Rd_most_53 (by decide) (fun cc => ?_) (fun cc => ?_)
        · replace h := it_f cc h
          refine lv_iconst (v := 5) C.1.1 C.1.2.1 d_Rd_most_63 (by decide) ?_
          obtain rfl := Option.some.inj h
          exact x_iret C hW rfl rfl hQ d_Rd_most_64
        · replace h := it_t cc h
          refine lv_aload_n C.1.1 C.1.2.1 d_Rd_most_56 rfl (lv_at hl 0 rfl) ?_
          obtain ⟨x3, hc4, h⟩ := bd_at h
          refine x_callV (ws' := [(aN, .inr (0, [.int N_width, .int N_height, .long N_everywhere, .long N_firstColumn, .long N_lastColumn, .ref aN_grounds, .ref aN_airs, .ref aN_tolds, .ref aN_fees, .ref aN_lets, .int N_makers, .ref aN_kinds, .ref aN_cells, .ref aN_selves, .ref aN_cries, .int N_leaves, .ref aN_parts, .int N_pasts, .ref aN_past])), (aR, .inr (1, [.ref aR_text, .int R_length, .ref aN, .int R_place, .int R_end, .int R_token, .ref aR_numbers]))]) (stk := [.int x3]) (rest := []) (As := []) (q0 := 1) C hE hW (c_Rd_lastCell l G aN aN_grounds aN_airs aN_tolds aN_fees aN_lets aN_kinds aN_cells aN_selves aN_cries aN_parts aN_past aR aR_text aR_numbers N_width N_height N_everywhere N_firstColumn N_lastColumn N_makers N_leaves N_pasts R_length R_place R_end R_token hc4) cv_Rd_lastCell tw533 hl rfl rfl (Nat.le_of_ble_eq_true rfl) rfl rfl rfl ⟨Nat.le_of_ble_eq_true rfl, Nat.le_of_ble_eq_true rfl⟩ ⟨Nat.zero_le _, Nat.zero_le _⟩ [0, 1] [] [0, 1] rfl rfl rfl (by decide) rfl rfl rfl rfl d_Rd_most_57 (fun H locs hW => ?_)
          refine lv_goto (tgt := 64) C.1.1 C.1.2.1 d_Rd_most_60 (by decide) ?_
          obtain rfl := Option.some.inj h
          exact x_iret C hW rfl rfl hQ d_Rd_most_64
      · replace h := it_f c2 h
        rcases Decidable.em (p1 = 3) with c3 | c3
        · replace h := it_t c3 h
          refine lv_tableIn (tgt := 65) C.1.1 C.1.2.1 d_Rd_most_1 (by rw [c3]; decide) (by rw [c3]; decide) (by rw [c3]; rfl) (by decide) ?_
          refine lv_iload_n C.1.1 C.1.2.1 d_Rd_most_65 rfl (lv_at hl 2 rfl) ?_
          refine lv_if_ne (tgt := 73) C.1.1 C.1.2.1 d_Rd_most_66 (by decide) (fun cc => ?_) (fun cc => ?_)
          · replace h := it_f cc h
            refine lv_bipush (v := 99) C.1.1 C.1.2.1 d_Rd_most_73 (by decide) ?_
            obtain rfl := Option.some.inj h
            exact x_iret C hW rfl rfl hQ d_Rd_most_75
          · replace h := it_t cc h
            refine lv_iconst (v := 5) C.1.1 C.1.2.1 d_Rd_most_69 (by decide) ?_
            refine lv_goto (tgt := 75) C.1.1 C.1.2.1 d_Rd_most_70 (by decide) ?_
            obtain rfl := Option.some.inj h
            exact x_iret C hW rfl rfl hQ d_Rd_most_75
        · replace h := it_f c3 h
          rcases Decidable.em (p1 = 4) with c4 | c4
          · replace h := it_t c4 h
            refine lv_tableIn (tgt := 76) C.1.1 C.1.2.1 d_Rd_most_1 (by rw [c4]; decide) (by rw [c4]; decide) (by rw [c4]; rfl) (by decide) ?_
            refine lv_iload_n C.1.1 C.1.2.1 d_Rd_most_76 rfl (lv_at hl 2 rfl) ?_
            refine lv_if_ne (tgt := 84) C.1.1 C.1.2.1 d_Rd_most_77 (by decide) (fun cc => ?_) (fun cc => ?_)
            · replace h := it_f cc h
              refine lv_iload_n C.1.1 C.1.2.1 d_Rd_most_84 rfl (lv_at hl 2 rfl) ?_
              refine lv_iconst (v := 1) C.1.1 C.1.2.1 d_Rd_most_85 (by decide) ?_
              refine lv_icmp_ne (tgt := 96) C.1.1 C.1.2.1 d_Rd_most_86 (by decide) (fun cc => ?_) (fun cc => ?_)
              · replace h := it_f cc h
                refine lv_iconst (v := 5) C.1.1 C.1.2.1 d_Rd_most_96 (by decide) ?_
                obtain rfl := Option.some.inj h
                exact x_iret C hW rfl rfl hQ d_Rd_most_97
              · replace h := it_t cc h
                refine lv_aload_n C.1.1 C.1.2.1 d_Rd_most_89 rfl (lv_at hl 0 rfl) ?_
                obtain ⟨x5, hc6, h⟩ := bd_at h
                refine x_callV (ws' := [(aN, .inr (0, [.int N_width, .int N_height, .long N_everywhere, .long N_firstColumn, .long N_lastColumn, .ref aN_grounds, .ref aN_airs, .ref aN_tolds, .ref aN_fees, .ref aN_lets, .int N_makers, .ref aN_kinds, .ref aN_cells, .ref aN_selves, .ref aN_cries, .int N_leaves, .ref aN_parts, .int N_pasts, .ref aN_past])), (aR, .inr (1, [.ref aR_text, .int R_length, .ref aN, .int R_place, .int R_end, .int R_token, .ref aR_numbers]))]) (stk := [.int x5]) (rest := []) (As := []) (q0 := 1) C hE hW (c_Rd_lastCell l G aN aN_grounds aN_airs aN_tolds aN_fees aN_lets aN_kinds aN_cells aN_selves aN_cries aN_parts aN_past aR aR_text aR_numbers N_width N_height N_everywhere N_firstColumn N_lastColumn N_makers N_leaves N_pasts R_length R_place R_end R_token hc6) cv_Rd_lastCell tw533 hl rfl rfl (Nat.le_of_ble_eq_true rfl) rfl rfl rfl ⟨Nat.le_of_ble_eq_true rfl, Nat.le_of_ble_eq_true rfl⟩ ⟨Nat.zero_le _, Nat.zero_le _⟩ [0, 1] [] [0, 1] rfl rfl rfl (by decide) rfl rfl rfl rfl d_Rd_most_90 (fun H locs hW => ?_)
                refine lv_goto (tgt := 97) C.1.1 C.1.2.1 d_Rd_most_93 (by decide) ?_
                obtain rfl := Option.some.inj h
                exact x_iret C hW rfl rfl hQ d_Rd_most_97
            · replace h := it_t cc h
              refine lv_iconst (v := 5) C.1.1 C.1.2.1 d_Rd_most_80 (by decide) ?_
              refine lv_goto (tgt := 97) C.1.1 C.1.2.1 d_Rd_most_81 (by decide) ?_
              obtain rfl := Option.some.inj h
              exact x_iret C hW rfl rfl hQ d_Rd_most_97
          · replace h := it_f c4 h
            have htb : p1.toInt < 0 ∨ 4 < p1.toInt := by
              refine tsw_out (fun z h1 h2 e => ?_)
              have hz : z = 0 ∨ z = 1 ∨ z = 2 ∨ z = 3 ∨ z = 4 := by omega
              rcases hz with rfl | rfl | rfl | rfl | rfl
              · exact c0 (tsw e)
              · exact c1 (tsw e)
              · exact c2 (tsw e)
              · exact c3 (tsw e)
              · exact c4 (tsw e)
            refine lv_tableOut (tgt := 98) C.1.1 C.1.2.1 d_Rd_most_1 htb (by decide) ?_
            refine lv_aload_n C.1.1 C.1.2.1 d_Rd_most_98 rfl (lv_at hl 0 rfl) ?_
            refine lv_iload_n C.1.1 C.1.2.1 d_Rd_most_99 rfl (lv_at hl 2 rfl) ?_
            obtain ⟨x7, hc8, h⟩ := bd_at h
            refine x_callV (ws' := [(aN, .inr (0, [.int N_width, .int N_height, .long N_everywhere, .long N_firstColumn, .long N_lastColumn, .ref aN_grounds, .ref aN_airs, .ref aN_tolds, .ref aN_fees, .ref aN_lets, .int N_makers, .ref aN_kinds, .ref aN_cells, .ref aN_selves, .ref aN_cries, .int N_leaves, .ref aN_parts, .int N_pasts, .ref aN_past])), (aR, .inr (1, [.ref aR_text, .int R_length, .ref aN, .int R_place, .int R_end, .int R_token, .ref aR_numbers]))]) (stk := [.int x7]) (rest := []) (As := [.int p2]) (q0 := 1) C hE hW (c_Rd_mostOfLeave l G aN aN_grounds aN_airs aN_tolds aN_fees aN_lets aN_kinds aN_cells aN_selves aN_cries aN_parts aN_past aR aR_text aR_numbers N_width N_height N_everywhere N_firstColumn N_lastColumn N_makers N_leaves N_pasts R_length R_place R_end R_token p2 hc8) cv_Rd_mostOfLeave tw537 hl rfl rfl (Nat.le_of_ble_eq_true rfl) rfl rfl rfl ⟨Nat.le_of_ble_eq_true rfl, Nat.le_of_ble_eq_true rfl⟩ ⟨Nat.zero_le _, Nat.zero_le _⟩ [0, 1] [] [0, 1] rfl rfl rfl (by decide) rfl rfl rfl rfl d_Rd_most_100 (fun H locs hW => ?_)
            obtain rfl := Option.some.inj h
            exact x_iret C hW rfl rfl hQ d_Rd_most_103
set_option maxHeartbeats 4000000 in
set_option maxRecDepth 100000 in
theorem c_Rd_tell (l : Launch) (G : Gl) (aN : Nat) (aN_grounds : Nat) (aN_airs : Nat) (aN_tolds : Nat) (aN_fees : Nat) (aN_lets : Nat) (aN_kinds : Nat) (aN_cells : Nat) (aN_selves : Nat) (aN_cries : Nat) (aN_parts : Nat) (aN_past : Nat) (aR : Nat) (aR_text : Nat) (aR_numbers : Nat) (N_width : Int32) (N_height : Int32) (N_everywhere : Int64) (N_firstColumn : Int64) (N_lastColumn : Int64) (N_makers : Int32) (N_leaves : Int32) (N_pasts : Int32) (R_length : Int32) (R_place : Int32) (R_end : Int32) (R_token : Int32) (N_grounds : Nat → Int64) (N_airs : Nat → Int64) (N_tolds : Nat → Int64) (N_fees : Nat → Int32) (N_lets : Nat → Int32) (N_kinds : Nat → Int32) (N_cells : Nat → Int32) (N_selves : Nat → Int32) (N_cries : Nat → Int32) (N_parts : Nat → Int32) (R_numbers : Nat → Int32) (p1 : Int32) {res : Int32 × Int32 × Int64 × Int64 × Int64 × (Nat → Int64) × (Nat → Int64) × (Nat → Int64) × (Nat → Int32) × (Nat → Int32) × Int32 × (Nat → Int32) × (Nat → Int32) × (Nat → Int32) × (Nat → Int32) × Int32 × (Nat → Int32) × Int32} (h : f_Rd_tell N_width N_height N_everywhere N_firstColumn N_lastColumn N_makers N_leaves N_pasts N_grounds N_airs N_tolds N_fees N_lets N_kinds N_cells N_selves N_cries N_parts R_numbers p1 = some res) : Ct l y_Rd_tell b_Rd_tell 2 none 3 70 G [.ref aR, .int p1] [(aN, .inr (0, [.int N_width, .int N_height, .long N_everywhere, .long N_firstColumn, .long N_lastColumn, .ref aN_grounds, .ref aN_airs, .ref aN_tolds, .ref aN_fees, .ref aN_lets, .int N_makers, .ref aN_kinds, .ref aN_cells, .ref aN_selves, .ref aN_cries, .int N_leaves, .ref aN_parts, .int N_pasts, .ref aN_past])), (aN_grounds, .inl (gJ G, 3, .inr (.inl N_grounds))), (aN_airs, .inl (gJ G, 6, .inr (.inl N_airs))), (aN_tolds, .inl (gJ G, 3, .inr (.inl N_tolds))), (aN_fees, .inl (gI G, 6, .inl N_fees)), (aN_lets, .inl (gI G, 6, .inl N_lets)), (aN_kinds, .inl (gI G, 6, .inl N_kinds)), (aN_cells, .inl (gI G, 6, .inl N_cells)), (aN_selves, .inl (gI G, 6, .inl N_selves)), (aN_cries, .inl (gI G, 6, .inl N_cries)), (aN_parts, .inl (gI G, 40, .inl N_parts)), (aR, .inr (1, [.ref aR_text, .int R_length, .ref aN, .int R_place, .int R_end, .int R_token, .ref aR_numbers])), (aR_numbers, .inl (gI G, 5, .inl R_numbers))] none [(aN, .inr (0, [.int (res.1), .int (res.2.1), .long (res.2.2.1), .long (res.2.2.2.1), .long (res.2.2.2.2.1), .ref aN_grounds, .ref aN_airs, .ref aN_tolds, .ref aN_fees, .ref aN_lets, .int (res.2.2.2.2.2.2.2.2.2.2.1), .ref aN_kinds, .ref aN_cells, .ref aN_selves, .ref aN_cries, .int (res.2.2.2.2.2.2.2.2.2.2.2.2.2.2.2.1), .ref aN_parts, .int (res.2.2.2.2.2.2.2.2.2.2.2.2.2.2.2.2.2), .ref aN_past])), (aN_grounds, .inl (gJ G, 3, .inr (.inl (res.2.2.2.2.2.1)))), (aN_airs, .inl (gJ G, 6, .inr (.inl (res.2.2.2.2.2.2.1)))), (aN_tolds, .inl (gJ G, 3, .inr (.inl (res.2.2.2.2.2.2.2.1)))), (aN_fees, .inl (gI G, 6, .inl (res.2.2.2.2.2.2.2.2.1))), (aN_lets, .inl (gI G, 6, .inl (res.2.2.2.2.2.2.2.2.2.1))), (aN_kinds, .inl (gI G, 6, .inl (res.2.2.2.2.2.2.2.2.2.2.2.1))), (aN_cells, .inl (gI G, 6, .inl (res.2.2.2.2.2.2.2.2.2.2.2.2.1))), (aN_selves, .inl (gI G, 6, .inl (res.2.2.2.2.2.2.2.2.2.2.2.2.2.1))), (aN_cries, .inl (gI G, 6, .inl (res.2.2.2.2.2.2.2.2.2.2.2.2.2.2.1))), (aN_parts, .inl (gI G, 40, .inl (res.2.2.2.2.2.2.2.2.2.2.2.2.2.2.2.2.1))), (aR, .inr (1, [.ref aR_text, .int R_length, .ref aN, .int R_place, .int R_end, .int R_token, .ref aR_numbers])), (aR_numbers, .inl (gI G, 5, .inl R_numbers))] := by
  refine Ct.mk (by decide) (Nat.le_of_ble_eq_true rfl) ?_
  intro p e s m args below meth c ls A Q C hE hW hl hQ
  have C : Cx p s args m c meth "LentAir$Reader" y_Rd_tell b_Rd_tell 2 none := C
  have hl : lv_has ls 2 [(0, .ref aR), (1, .int p1)] := hl
  unfold f_Rd_tell at h
  refine lv_iload_n C.1.1 C.1.2.1 d_Rd_tell_0 rfl (lv_at hl 1 rfl) ?_
  rcases Decidable.em (p1 = 0) with c0 | c0
  · replace h := it_t c0 h
    refine lv_tableIn (tgt := 36) C.1.1 C.1.2.1 d_Rd_tell_1 (by rw [c0]; decide) (by rw [c0]; decide) (by rw [c0]; rfl) (by decide) ?_
    refine lv_aload_n C.1.1 C.1.2.1 d_Rd_tell_36 rfl (lv_at hl 0 rfl) ?_
    refine x_get C hE hW fl_Rd_19 11 rfl rfl d_Rd_tell_37 ?_
    refine lv_aload_n C.1.1 C.1.2.1 d_Rd_tell_40 rfl (lv_at hl 0 rfl) ?_
    refine x_get C hE hW fl_Rd_15 11 rfl rfl d_Rd_tell_41 ?_
    refine lv_iconst (v := 0) C.1.1 C.1.2.1 d_Rd_tell_44 (by decide) ?_
    refine x_iald C hE hW 12 rfl (inB_in (by decide)) d_Rd_tell_45 ?_
    refine lv_aload_n C.1.1 C.1.2.1 d_Rd_tell_46 rfl (lv_at hl 0 rfl) ?_
    refine x_get C hE hW fl_Rd_15 11 rfl rfl d_Rd_tell_47 ?_
    refine lv_iconst (v := 1) C.1.1 C.1.2.1 d_Rd_tell_50 (by decide) ?_
    refine x_iald C hE hW 12 rfl (inB_in (by decide)) d_Rd_tell_51 ?_
    obtain ⟨⟨x1, x2, x3, x4, x5, x6, x7, x8, x9, x10, x11, x12, x13⟩, hc14, h⟩ := bd_at h
    refine x_callV (ws' := [(aN, .inr (0, [.int x1, .int x2, .long x3, .long x4, .long x5, .ref aN_grounds, .ref aN_airs, .ref aN_tolds, .ref aN_fees, .ref aN_lets, .int x11, .ref aN_kinds, .ref aN_cells, .ref aN_selves, .ref aN_cries, .int x12, .ref aN_parts, .int x13, .ref aN_past])), (aN_grounds, .inl (gJ G, 3, .inr (.inl x6))), (aN_airs, .inl (gJ G, 6, .inr (.inl x7))), (aN_tolds, .inl (gJ G, 3, .inr (.inl x8))), (aN_fees, .inl (gI G, 6, .inl x9)), (aN_lets, .inl (gI G, 6, .inl x10)), (aN_kinds, .inl (gI G, 6, .inl N_kinds)), (aN_cells, .inl (gI G, 6, .inl N_cells)), (aN_selves, .inl (gI G, 6, .inl N_selves)), (aN_cries, .inl (gI G, 6, .inl N_cries)), (aN_parts, .inl (gI G, 40, .inl N_parts)), (aR, .inr (1, [.ref aR_text, .int R_length, .ref aN, .int R_place, .int R_end, .int R_token, .ref aR_numbers])), (aR_numbers, .inl (gI G, 5, .inl R_numbers))]) (stk := []) (rest := []) (As := [.int (R_numbers (0 : Int32).toNatClampNeg), .int (R_numbers (1 : Int32).toNatClampNeg)]) (q0 := 0) C hE hW (c_Ld_lay l G aN aN_grounds aN_airs aN_tolds aN_fees aN_lets aN_kinds aN_cells aN_selves aN_cries aN_parts aN_past N_width N_height N_everywhere N_firstColumn N_lastColumn N_makers N_leaves N_pasts N_grounds N_airs N_tolds N_fees N_lets (R_numbers (0 : Int32).toNatClampNeg) (R_numbers (1 : Int32).toNatClampNeg) hc14) cv_Ld_lay tw545 hl rfl rfl (Nat.le_of_ble_eq_true rfl) rfl rfl rfl ⟨Nat.le_of_ble_eq_true rfl, Nat.le_of_ble_eq_true rfl⟩ ⟨Nat.zero_le _, Nat.zero_le _⟩ [0, 1, 2, 3, 4, 5] [6, 7, 8, 9, 10, 11, 12] [7, 8, 9, 10, 11, 12, 0, 1, 2, 3, 4, 5, 6] rfl rfl rfl (by decide) rfl rfl rfl rfl d_Rd_tell_52 (fun H locs hW => ?_)
    refine lv_goto (tgt := 198) C.1.1 C.1.2.1 d_Rd_tell_55 (by decide) ?_
    obtain rfl := Option.some.inj h
    exact x_vret C hW rfl rfl hQ d_Rd_tell_198
  · replace h := it_f c0 h
    rcases Decidable.em (p1 = 1) with c1 | c1
    · replace h := it_t c1 h
      refine lv_tableIn (tgt := 58) C.1.1 C.1.2.1 d_Rd_tell_1 (by rw [c1]; decide) (by rw [c1]; decide) (by rw [c1]; rfl) (by decide) ?_
      refine lv_aload_n C.1.1 C.1.2.1 d_Rd_tell_58 rfl (lv_at hl 0 rfl) ?_
      refine x_get C hE hW fl_Rd_19 11 rfl rfl d_Rd_tell_59 ?_
      refine x_get C hE hW fl_Rd_93 0 rfl rfl d_Rd_tell_62 ?_
      refine lv_aload_n C.1.1 C.1.2.1 d_Rd_tell_65 rfl (lv_at hl 0 rfl) ?_
      refine x_get C hE hW fl_Rd_15 11 rfl rfl d_Rd_tell_66 ?_
      refine lv_iconst (v := 0) C.1.1 C.1.2.1 d_Rd_tell_69 (by decide) ?_
      refine x_iald C hE hW 12 rfl (inB_in (by decide)) d_Rd_tell_70 ?_
      refine lv_aload_n C.1.1 C.1.2.1 d_Rd_tell_71 rfl (lv_at hl 0 rfl) ?_
      refine x_get C hE hW fl_Rd_15 11 rfl rfl d_Rd_tell_72 ?_
      refine lv_iconst (v := 1) C.1.1 C.1.2.1 d_Rd_tell_75 (by decide) ?_
      refine x_iald C hE hW 12 rfl (inB_in (by decide)) d_Rd_tell_76 ?_
      obtain ⟨⟨x15, x16⟩, hc17, h⟩ := bd_at h
      refine x_callS (ws' := [(aN, .inr (0, [.int N_width, .int N_height, .long N_everywhere, .long N_firstColumn, .long N_lastColumn, .ref aN_grounds, .ref aN_airs, .ref aN_tolds, .ref aN_fees, .ref aN_lets, .int N_makers, .ref aN_kinds, .ref aN_cells, .ref aN_selves, .ref aN_cries, .int N_leaves, .ref aN_parts, .int N_pasts, .ref aN_past])), (aN_grounds, .inl (gJ G, 3, .inr (.inl x16))), (aN_airs, .inl (gJ G, 6, .inr (.inl N_airs))), (aN_tolds, .inl (gJ G, 3, .inr (.inl N_tolds))), (aN_fees, .inl (gI G, 6, .inl N_fees)), (aN_lets, .inl (gI G, 6, .inl N_lets)), (aN_kinds, .inl (gI G, 6, .inl N_kinds)), (aN_cells, .inl (gI G, 6, .inl N_cells)), (aN_selves, .inl (gI G, 6, .inl N_selves)), (aN_cries, .inl (gI G, 6, .inl N_cries)), (aN_parts, .inl (gI G, 40, .inl N_parts)), (aR, .inr (1, [.ref aR_text, .int R_length, .ref aN, .int R_place, .int R_end, .int R_token, .ref aR_numbers])), (aR_numbers, .inl (gI G, 5, .inl R_numbers))]) (stk := [.int x15]) (rest := []) (As := [.ref aN_grounds, .int (R_numbers (0 : Int32).toNatClampNeg), .int (R_numbers (1 : Int32).toNatClampNeg)]) C hE hW (c_Ld_sortInto l G aN_grounds 3 N_grounds (R_numbers (0 : Int32).toNatClampNeg) (R_numbers (1 : Int32).toNatClampNeg) hc17) cv_Ld_sortInto tw546 hl rfl rfl (Nat.le_of_ble_eq_true rfl) ⟨Nat.le_of_ble_eq_true rfl, Nat.le_of_ble_eq_true rfl⟩ ⟨Nat.zero_le _, Nat.zero_le _⟩ [1] [0, 2, 3, 4, 5, 6, 7, 8, 9, 10, 11, 12] [0, 12, 1, 2, 3, 4, 5, 6, 7, 8, 9, 10, 11] rfl rfl rfl (by decide) rfl rfl rfl rfl d_Rd_tell_77 (fun H locs hW => ?_)
      refine lv_pop C.1.1 C.1.2.1 d_Rd_tell_80 rfl ?_
      refine lv_goto (tgt := 198) C.1.1 C.1.2.1 d_Rd_tell_81 (by decide) ?_
      obtain rfl := Option.some.inj h
      exact x_vret C hW rfl rfl hQ d_Rd_tell_198
    · replace h := it_f c1 h
      rcases Decidable.em (p1 = 2) with c2 | c2
      · replace h := it_t c2 h
        refine lv_tableIn (tgt := 84) C.1.1 C.1.2.1 d_Rd_tell_1 (by rw [c2]; decide) (by rw [c2]; decide) (by rw [c2]; rfl) (by decide) ?_
        refine lv_aload_n C.1.1 C.1.2.1 d_Rd_tell_84 rfl (lv_at hl 0 rfl) ?_
        refine x_get C hE hW fl_Rd_19 11 rfl rfl d_Rd_tell_85 ?_
        refine x_get C hE hW fl_Rd_101 0 rfl rfl d_Rd_tell_88 ?_
        refine lv_aload_n C.1.1 C.1.2.1 d_Rd_tell_91 rfl (lv_at hl 0 rfl) ?_
        refine x_get C hE hW fl_Rd_15 11 rfl rfl d_Rd_tell_92 ?_
        refine lv_iconst (v := 0) C.1.1 C.1.2.1 d_Rd_tell_95 (by decide) ?_
        refine x_iald C hE hW 12 rfl (inB_in (by decide)) d_Rd_tell_96 ?_
        refine lv_aload_n C.1.1 C.1.2.1 d_Rd_tell_97 rfl (lv_at hl 0 rfl) ?_
        refine x_get C hE hW fl_Rd_15 11 rfl rfl d_Rd_tell_98 ?_
        refine lv_iconst (v := 1) C.1.1 C.1.2.1 d_Rd_tell_101 (by decide) ?_
        refine x_iald C hE hW 12 rfl (inB_in (by decide)) d_Rd_tell_102 ?_
        obtain ⟨⟨x18, x19⟩, hc20, h⟩ := bd_at h
        refine x_callS (ws' := [(aN, .inr (0, [.int N_width, .int N_height, .long N_everywhere, .long N_firstColumn, .long N_lastColumn, .ref aN_grounds, .ref aN_airs, .ref aN_tolds, .ref aN_fees, .ref aN_lets, .int N_makers, .ref aN_kinds, .ref aN_cells, .ref aN_selves, .ref aN_cries, .int N_leaves, .ref aN_parts, .int N_pasts, .ref aN_past])), (aN_grounds, .inl (gJ G, 3, .inr (.inl N_grounds))), (aN_airs, .inl (gJ G, 6, .inr (.inl x19))), (aN_tolds, .inl (gJ G, 3, .inr (.inl N_tolds))), (aN_fees, .inl (gI G, 6, .inl N_fees)), (aN_lets, .inl (gI G, 6, .inl N_lets)), (aN_kinds, .inl (gI G, 6, .inl N_kinds)), (aN_cells, .inl (gI G, 6, .inl N_cells)), (aN_selves, .inl (gI G, 6, .inl N_selves)), (aN_cries, .inl (gI G, 6, .inl N_cries)), (aN_parts, .inl (gI G, 40, .inl N_parts)), (aR, .inr (1, [.ref aR_text, .int R_length, .ref aN, .int R_place, .int R_end, .int R_token, .ref aR_numbers])), (aR_numbers, .inl (gI G, 5, .inl R_numbers))]) (stk := [.int x18]) (rest := []) (As := [.ref aN_airs, .int (R_numbers (0 : Int32).toNatClampNeg), .int (R_numbers (1 : Int32).toNatClampNeg)]) C hE hW (c_Ld_sortInto l G aN_airs 6 N_airs (R_numbers (0 : Int32).toNatClampNeg) (R_numbers (1 : Int32).toNatClampNeg) hc20) cv_Ld_sortInto tw546 hl rfl rfl (Nat.le_of_ble_eq_true rfl) ⟨Nat.le_of_ble_eq_true rfl, Nat.le_of_ble_eq_true rfl⟩ ⟨Nat.zero_le _, Nat.zero_le _⟩ [2] [0, 1, 3, 4, 5, 6, 7, 8, 9, 10, 11, 12] [0, 1, 12, 2, 3, 4, 5, 6, 7, 8, 9, 10, 11] rfl rfl rfl (by decide) rfl rfl rfl rfl d_Rd_tell_103 (fun H locs hW => ?_)
        refine lv_pop C.1.1 C.1.2.1 d_Rd_tell_106 rfl ?_
        refine lv_goto (tgt := 198) C.1.1 C.1.2.1 d_Rd_tell_107 (by decide) ?_
        obtain rfl := Option.some.inj h
        exact x_vret C hW rfl rfl hQ d_Rd_tell_198
      · replace h := it_f c2 h
        rcases Decidable.em (p1 = 3) with c3 | c3
        · replace h := it_t c3 h
          refine lv_tableIn (tgt := 110) C.1.1 C.1.2.1 d_Rd_tell_1 (by rw [c3]; decide) (by rw [c3]; decide) (by rw [c3]; rfl) (by decide) ?_
          refine lv_aload_n C.1.1 C.1.2.1 d_Rd_tell_110 rfl (lv_at hl 0 rfl) ?_
          refine x_get C hE hW fl_Rd_19 11 rfl rfl d_Rd_tell_111 ?_
          refine lv_aload_n C.1.1 C.1.2.1 d_Rd_tell_114 rfl (lv_at hl 0 rfl) ?_
          refine x_get C hE hW fl_Rd_15 11 rfl rfl d_Rd_tell_115 ?_
          refine lv_iconst (v := 0) C.1.1 C.1.2.1 d_Rd_tell_118 (by decide) ?_
          refine x_iald C hE hW 12 rfl (inB_in (by decide)) d_Rd_tell_119 ?_
          refine lv_aload_n C.1.1 C.1.2.1 d_Rd_tell_120 rfl (lv_at hl 0 rfl) ?_
          refine x_get C hE hW fl_Rd_15 11 rfl rfl d_Rd_tell_121 ?_
          refine lv_iconst (v := 1) C.1.1 C.1.2.1 d_Rd_tell_124 (by decide) ?_
          refine x_iald C hE hW 12 rfl (inB_in (by decide)) d_Rd_tell_125 ?_
          obtain ⟨⟨x21, x22⟩, hc23, h⟩ := bd_at h
          refine x_callV (ws' := [(aN, .inr (0, [.int N_width, .int N_height, .long N_everywhere, .long N_firstColumn, .long N_lastColumn, .ref aN_grounds, .ref aN_airs, .ref aN_tolds, .ref aN_fees, .ref aN_lets, .int N_makers, .ref aN_kinds, .ref aN_cells, .ref aN_selves, .ref aN_cries, .int N_leaves, .ref aN_parts, .int N_pasts, .ref aN_past])), (aN_grounds, .inl (gJ G, 3, .inr (.inl N_grounds))), (aN_airs, .inl (gJ G, 6, .inr (.inl N_airs))), (aN_tolds, .inl (gJ G, 3, .inr (.inl N_tolds))), (aN_fees, .inl (gI G, 6, .inl x22)), (aN_lets, .inl (gI G, 6, .inl N_lets)), (aN_kinds, .inl (gI G, 6, .inl N_kinds)), (aN_cells, .inl (gI G, 6, .inl N_cells)), (aN_selves, .inl (gI G, 6, .inl N_selves)), (aN_cries, .inl (gI G, 6, .inl N_cries)), (aN_parts, .inl (gI G, 40, .inl N_parts)), (aR, .inr (1, [.ref aR_text, .int R_length, .ref aN, .int R_place, .int R_end, .int R_token, .ref aR_numbers])), (aR_numbers, .inl (gI G, 5, .inl R_numbers))]) (stk := [.int x21]) (rest := []) (As := [.int (R_numbers (0 : Int32).toNatClampNeg), .int (R_numbers (1 : Int32).toNatClampNeg)]) (q0 := 0) C hE hW (c_Ld_changeFee l G aN aN_grounds aN_airs aN_tolds aN_fees aN_lets aN_kinds aN_cells aN_selves aN_cries aN_parts aN_past N_width N_height N_everywhere N_firstColumn N_lastColumn N_makers N_leaves N_pasts N_fees (R_numbers (0 : Int32).toNatClampNeg) (R_numbers (1 : Int32).toNatClampNeg) hc23) cv_Ld_changeFee tw547 hl rfl rfl (Nat.le_of_ble_eq_true rfl) rfl rfl rfl ⟨Nat.le_of_ble_eq_true rfl, Nat.le_of_ble_eq_true rfl⟩ ⟨Nat.zero_le _, Nat.zero_le _⟩ [0, 4] [1, 2, 3, 5, 6, 7, 8, 9, 10, 11, 12] [11, 0, 1, 2, 12, 3, 4, 5, 6, 7, 8, 9, 10] rfl rfl rfl (by decide) rfl rfl rfl rfl d_Rd_tell_126 (fun H locs hW => ?_)
          refine lv_pop C.1.1 C.1.2.1 d_Rd_tell_129 rfl ?_
          refine lv_goto (tgt := 198) C.1.1 C.1.2.1 d_Rd_tell_130 (by decide) ?_
          obtain rfl := Option.some.inj h
          exact x_vret C hW rfl rfl hQ d_Rd_tell_198
        · replace h := it_f c3 h
          rcases Decidable.em (p1 = 4) with c4 | c4
          · replace h := it_t c4 h
            refine lv_tableIn (tgt := 133) C.1.1 C.1.2.1 d_Rd_tell_1 (by rw [c4]; decide) (by rw [c4]; decide) (by rw [c4]; rfl) (by decide) ?_
            refine lv_aload_n C.1.1 C.1.2.1 d_Rd_tell_133 rfl (lv_at hl 0 rfl) ?_
            refine x_get C hE hW fl_Rd_19 11 rfl rfl d_Rd_tell_134 ?_
            refine lv_aload_n C.1.1 C.1.2.1 d_Rd_tell_137 rfl (lv_at hl 0 rfl) ?_
            refine x_get C hE hW fl_Rd_15 11 rfl rfl d_Rd_tell_138 ?_
            refine lv_iconst (v := 0) C.1.1 C.1.2.1 d_Rd_tell_141 (by decide) ?_
            refine x_iald C hE hW 12 rfl (inB_in (by decide)) d_Rd_tell_142 ?_
            refine lv_aload_n C.1.1 C.1.2.1 d_Rd_tell_143 rfl (lv_at hl 0 rfl) ?_
            refine x_get C hE hW fl_Rd_15 11 rfl rfl d_Rd_tell_144 ?_
            refine lv_iconst (v := 1) C.1.1 C.1.2.1 d_Rd_tell_147 (by decide) ?_
            refine x_iald C hE hW 12 rfl (inB_in (by decide)) d_Rd_tell_148 ?_
            refine lv_aload_n C.1.1 C.1.2.1 d_Rd_tell_149 rfl (lv_at hl 0 rfl) ?_
            refine x_get C hE hW fl_Rd_15 11 rfl rfl d_Rd_tell_150 ?_
            refine lv_iconst (v := 2) C.1.1 C.1.2.1 d_Rd_tell_153 (by decide) ?_
            refine x_iald C hE hW 12 rfl (inB_in (by decide)) d_Rd_tell_154 ?_
            obtain ⟨⟨x24, x25, x26, x27, x28⟩, hc29, h⟩ := bd_at h
            refine x_callV (ws' := [(aN, .inr (0, [.int N_width, .int N_height, .long N_everywhere, .long N_firstColumn, .long N_lastColumn, .ref aN_grounds, .ref aN_airs, .ref aN_tolds, .ref aN_fees, .ref aN_lets, .int x24, .ref aN_kinds, .ref aN_cells, .ref aN_selves, .ref aN_cries, .int N_leaves, .ref aN_parts, .int N_pasts, .ref aN_past])), (aN_grounds, .inl (gJ G, 3, .inr (.inl N_grounds))), (aN_airs, .inl (gJ G, 6, .inr (.inl N_airs))), (aN_tolds, .inl (gJ G, 3, .inr (.inl N_tolds))), (aN_fees, .inl (gI G, 6, .inl N_fees)), (aN_lets, .inl (gI G, 6, .inl N_lets)), (aN_kinds, .inl (gI G, 6, .inl x25)), (aN_cells, .inl (gI G, 6, .inl x26)), (aN_selves, .inl (gI G, 6, .inl x27)), (aN_cries, .inl (gI G, 6, .inl x28)), (aN_parts, .inl (gI G, 40, .inl N_parts)), (aR, .inr (1, [.ref aR_text, .int R_length, .ref aN, .int R_place, .int R_end, .int R_token, .ref aR_numbers])), (aR_numbers, .inl (gI G, 5, .inl R_numbers))]) (stk := []) (rest := []) (As := [.int (R_numbers (0 : Int32).toNatClampNeg), .int (R_numbers (1 : Int32).toNatClampNeg), .int (R_numbers (2 : Int32).toNatClampNeg)]) (q0 := 0) C hE hW (c_Ld_addMaker l G aN aN_grounds aN_airs aN_tolds aN_fees aN_lets aN_kinds aN_cells aN_selves aN_cries aN_parts aN_past N_width N_height N_everywhere N_firstColumn N_lastColumn N_makers N_leaves N_pasts N_kinds N_cells N_selves N_cries (R_numbers (0 : Int32).toNatClampNeg) (R_numbers (1 : Int32).toNatClampNeg) (R_numbers (2 : Int32).toNatClampNeg) hc29) cv_Ld_addMaker tw548 hl rfl rfl (Nat.le_of_ble_eq_true rfl) rfl rfl rfl ⟨Nat.le_of_ble_eq_true rfl, Nat.le_of_ble_eq_true rfl⟩ ⟨Nat.zero_le _, Nat.zero_le _⟩ [0, 6, 7, 8, 9] [1, 2, 3, 4, 5, 10, 11, 12] [8, 0, 1, 2, 3, 4, 9, 10, 11, 12, 5, 6, 7] rfl rfl rfl (by decide) rfl rfl rfl rfl d_Rd_tell_155 (fun H locs hW => ?_)
            refine lv_goto (tgt := 198) C.1.1 C.1.2.1 d_Rd_tell_158 (by decide) ?_
            obtain rfl := Option.some.inj h
            exact x_vret C hW rfl rfl hQ d_Rd_tell_198
          · replace h := it_f c4 h
            have htb : p1.toInt < 0 ∨ 4 < p1.toInt := by
              refine tsw_out (fun z h1 h2 e => ?_)
              have hz : z = 0 ∨ z = 1 ∨ z = 2 ∨ z = 3 ∨ z = 4 := by omega
              rcases hz with rfl | rfl | rfl | rfl | rfl
              · exact c0 (tsw e)
              · exact c1 (tsw e)
              · exact c2 (tsw e)
              · exact c3 (tsw e)
              · exact c4 (tsw e)
            refine lv_tableOut (tgt := 161) C.1.1 C.1.2.1 d_Rd_tell_1 htb (by decide) ?_
            refine lv_aload_n C.1.1 C.1.2.1 d_Rd_tell_161 rfl (lv_at hl 0 rfl) ?_
            refine x_get C hE hW fl_Rd_19 11 rfl rfl d_Rd_tell_162 ?_
            refine lv_aload_n C.1.1 C.1.2.1 d_Rd_tell_165 rfl (lv_at hl 0 rfl) ?_
            refine x_get C hE hW fl_Rd_15 11 rfl rfl d_Rd_tell_166 ?_
            refine lv_iconst (v := 0) C.1.1 C.1.2.1 d_Rd_tell_169 (by decide) ?_
            refine x_iald C hE hW 12 rfl (inB_in (by decide)) d_Rd_tell_170 ?_
            refine lv_aload_n C.1.1 C.1.2.1 d_Rd_tell_171 rfl (lv_at hl 0 rfl) ?_
            refine x_get C hE hW fl_Rd_15 11 rfl rfl d_Rd_tell_172 ?_
            refine lv_iconst (v := 1) C.1.1 C.1.2.1 d_Rd_tell_175 (by decide) ?_
            refine x_iald C hE hW 12 rfl (inB_in (by decide)) d_Rd_tell_176 ?_
            refine lv_aload_n C.1.1 C.1.2.1 d_Rd_tell_177 rfl (lv_at hl 0 rfl) ?_
            refine x_get C hE hW fl_Rd_15 11 rfl rfl d_Rd_tell_178 ?_
            refine lv_iconst (v := 2) C.1.1 C.1.2.1 d_Rd_tell_181 (by decide) ?_
            refine x_iald C hE hW 12 rfl (inB_in (by decide)) d_Rd_tell_182 ?_
            refine lv_aload_n C.1.1 C.1.2.1 d_Rd_tell_183 rfl (lv_at hl 0 rfl) ?_
            refine x_get C hE hW fl_Rd_15 11 rfl rfl d_Rd_tell_184 ?_
            refine lv_iconst (v := 3) C.1.1 C.1.2.1 d_Rd_tell_187 (by decide) ?_
            refine x_iald C hE hW 12 rfl (inB_in (by decide)) d_Rd_tell_188 ?_
            refine lv_aload_n C.1.1 C.1.2.1 d_Rd_tell_189 rfl (lv_at hl 0 rfl) ?_
            refine x_get C hE hW fl_Rd_15 11 rfl rfl d_Rd_tell_190 ?_
            refine lv_iconst (v := 4) C.1.1 C.1.2.1 d_Rd_tell_193 (by decide) ?_
            refine x_iald C hE hW 12 rfl (inB_in (by decide)) d_Rd_tell_194 ?_
            obtain ⟨⟨x30, x31⟩, hc32, h⟩ := bd_at h
            refine x_callV (ws' := [(aN, .inr (0, [.int N_width, .int N_height, .long N_everywhere, .long N_firstColumn, .long N_lastColumn, .ref aN_grounds, .ref aN_airs, .ref aN_tolds, .ref aN_fees, .ref aN_lets, .int N_makers, .ref aN_kinds, .ref aN_cells, .ref aN_selves, .ref aN_cries, .int x30, .ref aN_parts, .int N_pasts, .ref aN_past])), (aN_grounds, .inl (gJ G, 3, .inr (.inl N_grounds))), (aN_airs, .inl (gJ G, 6, .inr (.inl N_airs))), (aN_tolds, .inl (gJ G, 3, .inr (.inl N_tolds))), (aN_fees, .inl (gI G, 6, .inl N_fees)), (aN_lets, .inl (gI G, 6, .inl N_lets)), (aN_kinds, .inl (gI G, 6, .inl N_kinds)), (aN_cells, .inl (gI G, 6, .inl N_cells)), (aN_selves, .inl (gI G, 6, .inl N_selves)), (aN_cries, .inl (gI G, 6, .inl N_cries)), (aN_parts, .inl (gI G, 40, .inl x31)), (aR, .inr (1, [.ref aR_text, .int R_length, .ref aN, .int R_place, .int R_end, .int R_token, .ref aR_numbers])), (aR_numbers, .inl (gI G, 5, .inl R_numbers))]) (stk := []) (rest := []) (As := [.int (R_numbers (0 : Int32).toNatClampNeg), .int (R_numbers (1 : Int32).toNatClampNeg), .int (R_numbers (2 : Int32).toNatClampNeg), .int (R_numbers (3 : Int32).toNatClampNeg), .int (R_numbers (4 : Int32).toNatClampNeg)]) (q0 := 0) C hE hW (c_Ld_addLeave l G aN aN_grounds aN_airs aN_tolds aN_fees aN_lets aN_kinds aN_cells aN_selves aN_cries aN_parts aN_past N_width N_height N_everywhere N_firstColumn N_lastColumn N_makers N_leaves N_pasts N_parts (R_numbers (0 : Int32).toNatClampNeg) (R_numbers (1 : Int32).toNatClampNeg) (R_numbers (2 : Int32).toNatClampNeg) (R_numbers (3 : Int32).toNatClampNeg) (R_numbers (4 : Int32).toNatClampNeg) hc32) cv_Ld_addLeave tw549 hl rfl rfl (Nat.le_of_ble_eq_true rfl) rfl rfl rfl ⟨Nat.le_of_ble_eq_true rfl, Nat.le_of_ble_eq_true rfl⟩ ⟨Nat.zero_le _, Nat.zero_le _⟩ [0, 10] [1, 2, 3, 4, 5, 6, 7, 8, 9, 11, 12] [11, 0, 1, 2, 3, 4, 5, 6, 7, 8, 12, 9, 10] rfl rfl rfl (by decide) rfl rfl rfl rfl d_Rd_tell_195 (fun H locs hW => ?_)
            obtain rfl := Option.some.inj h
            exact x_vret C hW rfl rfl hQ d_Rd_tell_198
set_option maxHeartbeats 4000000 in
set_option maxRecDepth 100000 in
theorem c_Rd_readItem (l : Launch) (G : Gl) (aN : Nat) (aN_grounds : Nat) (aN_airs : Nat) (aN_tolds : Nat) (aN_fees : Nat) (aN_lets : Nat) (aN_kinds : Nat) (aN_cells : Nat) (aN_selves : Nat) (aN_cries : Nat) (aN_parts : Nat) (aN_past : Nat) (aR : Nat) (aR_text : Nat) (aR_numbers : Nat) (N_width : Int32) (N_height : Int32) (N_everywhere : Int64) (N_firstColumn : Int64) (N_lastColumn : Int64) (N_makers : Int32) (N_leaves : Int32) (N_pasts : Int32) (R_length : Int32) (R_place : Int32) (R_end : Int32) (R_token : Int32) (N_grounds : Nat → Int64) (N_airs : Nat → Int64) (N_tolds : Nat → Int64) (N_fees : Nat → Int32) (N_lets : Nat → Int32) (N_kinds : Nat → Int32) (N_cells : Nat → Int32) (N_selves : Nat → Int32) (N_cries : Nat → Int32) (N_parts : Nat → Int32) (R_text : Nat → Int32) (R_numbers : Nat → Int32) (p1 : Int32) {res : Int32 × Int32 × Int32 × Int64 × Int64 × Int64 × (Nat → Int64) × (Nat → Int64) × (Nat → Int64) × (Nat → Int32) × (Nat → Int32) × Int32 × (Nat → Int32) × (Nat → Int32) × (Nat → Int32) × (Nat → Int32) × Int32 × (Nat → Int32) × Int32 × Int32 × Int32 × Int32 × (Nat → Int32)} (h : f_Rd_readItem N_width N_height N_everywhere N_firstColumn N_lastColumn N_makers N_leaves N_pasts R_length R_place R_end R_token N_grounds N_airs N_tolds N_fees N_lets N_kinds N_cells N_selves N_cries N_parts R_text R_numbers p1 = some res) : Ct l y_Rd_readItem b_Rd_readItem 5 (some .boolean) 6 128 G [.ref aR, .int p1] [(aN, .inr (0, [.int N_width, .int N_height, .long N_everywhere, .long N_firstColumn, .long N_lastColumn, .ref aN_grounds, .ref aN_airs, .ref aN_tolds, .ref aN_fees, .ref aN_lets, .int N_makers, .ref aN_kinds, .ref aN_cells, .ref aN_selves, .ref aN_cries, .int N_leaves, .ref aN_parts, .int N_pasts, .ref aN_past])), (aN_grounds, .inl (gJ G, 3, .inr (.inl N_grounds))), (aN_airs, .inl (gJ G, 6, .inr (.inl N_airs))), (aN_tolds, .inl (gJ G, 3, .inr (.inl N_tolds))), (aN_fees, .inl (gI G, 6, .inl N_fees)), (aN_lets, .inl (gI G, 6, .inl N_lets)), (aN_kinds, .inl (gI G, 6, .inl N_kinds)), (aN_cells, .inl (gI G, 6, .inl N_cells)), (aN_selves, .inl (gI G, 6, .inl N_selves)), (aN_cries, .inl (gI G, 6, .inl N_cries)), (aN_parts, .inl (gI G, 40, .inl N_parts)), (aR, .inr (1, [.ref aR_text, .int R_length, .ref aN, .int R_place, .int R_end, .int R_token, .ref aR_numbers])), (aR_text, .inl (gB G, 150, .inl R_text)), (aR_numbers, .inl (gI G, 5, .inl R_numbers))] (some (.int res.1)) [(aN, .inr (0, [.int (res.2.1), .int (res.2.2.1), .long (res.2.2.2.1), .long (res.2.2.2.2.1), .long (res.2.2.2.2.2.1), .ref aN_grounds, .ref aN_airs, .ref aN_tolds, .ref aN_fees, .ref aN_lets, .int (res.2.2.2.2.2.2.2.2.2.2.2.1), .ref aN_kinds, .ref aN_cells, .ref aN_selves, .ref aN_cries, .int (res.2.2.2.2.2.2.2.2.2.2.2.2.2.2.2.2.1), .ref aN_parts, .int (res.2.2.2.2.2.2.2.2.2.2.2.2.2.2.2.2.2.2.1), .ref aN_past])), (aN_grounds, .inl (gJ G, 3, .inr (.inl (res.2.2.2.2.2.2.1)))), (aN_airs, .inl (gJ G, 6, .inr (.inl (res.2.2.2.2.2.2.2.1)))), (aN_tolds, .inl (gJ G, 3, .inr (.inl (res.2.2.2.2.2.2.2.2.1)))), (aN_fees, .inl (gI G, 6, .inl (res.2.2.2.2.2.2.2.2.2.1))), (aN_lets, .inl (gI G, 6, .inl (res.2.2.2.2.2.2.2.2.2.2.1))), (aN_kinds, .inl (gI G, 6, .inl (res.2.2.2.2.2.2.2.2.2.2.2.2.1))), (aN_cells, .inl (gI G, 6, .inl (res.2.2.2.2.2.2.2.2.2.2.2.2.2.1))), (aN_selves, .inl (gI G, 6, .inl (res.2.2.2.2.2.2.2.2.2.2.2.2.2.2.1))), (aN_cries, .inl (gI G, 6, .inl (res.2.2.2.2.2.2.2.2.2.2.2.2.2.2.2.1))), (aN_parts, .inl (gI G, 40, .inl (res.2.2.2.2.2.2.2.2.2.2.2.2.2.2.2.2.2.1))), (aR, .inr (1, [.ref aR_text, .int R_length, .ref aN, .int (res.2.2.2.2.2.2.2.2.2.2.2.2.2.2.2.2.2.2.2.1), .int (res.2.2.2.2.2.2.2.2.2.2.2.2.2.2.2.2.2.2.2.2.1), .int (res.2.2.2.2.2.2.2.2.2.2.2.2.2.2.2.2.2.2.2.2.2.1), .ref aR_numbers])), (aR_text, .inl (gB G, 150, .inl R_text)), (aR_numbers, .inl (gI G, 5, .inl (res.2.2.2.2.2.2.2.2.2.2.2.2.2.2.2.2.2.2.2.2.2.2)))] := by
  refine Ct.mk (by decide) (Nat.le_of_ble_eq_true rfl) ?_
  intro p e s m args below meth c ls A Q C hE hW hl hQ
  have C : Cx p s args m c meth "LentAir$Reader" y_Rd_readItem b_Rd_readItem 5 (some .boolean) := C
  have hl : lv_has ls 5 [(0, .ref aR), (1, .int p1)] := hl
  unfold f_Rd_readItem at h
  refine lv_aload_n C.1.1 C.1.2.1 d_Rd_readItem_0 rfl (lv_at hl 0 rfl) ?_
  refine x_get C hE hW fl_Rd_33 11 rfl rfl d_Rd_readItem_1 ?_
  refine lv_iconst (v := 1) C.1.1 C.1.2.1 d_Rd_readItem_4 (by decide) ?_
  refine jn_at (P := fun (x1 : Int32) => ∀ (H : Heap) (locs : List Loc) (ls : Array Slot), Wd G A s.heap H locs [(aN, .inr (0, [.int N_width, .int N_height, .long N_everywhere, .long N_firstColumn, .long N_lastColumn, .ref aN_grounds, .ref aN_airs, .ref aN_tolds, .ref aN_fees, .ref aN_lets, .int N_makers, .ref aN_kinds, .ref aN_cells, .ref aN_selves, .ref aN_cries, .int N_leaves, .ref aN_parts, .int N_pasts, .ref aN_past])), (aN_grounds, .inl (gJ G, 3, .inr (.inl N_grounds))), (aN_airs, .inl (gJ G, 6, .inr (.inl N_airs))), (aN_tolds, .inl (gJ G, 3, .inr (.inl N_tolds))), (aN_fees, .inl (gI G, 6, .inl N_fees)), (aN_lets, .inl (gI G, 6, .inl N_lets)), (aN_kinds, .inl (gI G, 6, .inl N_kinds)), (aN_cells, .inl (gI G, 6, .inl N_cells)), (aN_selves, .inl (gI G, 6, .inl N_selves)), (aN_cries, .inl (gI G, 6, .inl N_cries)), (aN_parts, .inl (gI G, 40, .inl N_parts)), (aR, .inr (1, [.ref aR_text, .int R_length, .ref aN, .int R_place, .int R_end, .int R_token, .ref aR_numbers])), (aR_text, .inl (gB G, 150, .inl R_text)), (aR_numbers, .inl (gI G, 5, .inl R_numbers))] → lv_has ls 5 [(0, .ref aR), (1, .int p1)] → W p l e (RM 6 128) s m args below meth c H locs 0 0 Q (F0 m 17 ls [.int x1])) h ?_ ?_
  · skip
    intro x1 h
    intro H locs ls hW hl
    refine lv_istore_n (lv' := [(2, .int x1), (0, .ref aR), (1, .int p1)]) C.1.1 C.1.2.1 d_Rd_readItem_17 rfl hl (by decide) rfl (fun ls hl => ?_)
    refine lv_iload_n C.1.1 C.1.2.1 d_Rd_readItem_18 rfl (lv_at hl 0 rfl) ?_
    refine lv_bipush (v := 6) C.1.1 C.1.2.1 d_Rd_readItem_19 (by decide) ?_
    refine lv_icmp_eq (tgt := 45) C.1.1 C.1.2.1 d_Rd_readItem_21 (by decide) (fun cc => ?_) (fun cc => ?_)
    · replace h := it_t cc h
      refine lv_iconst (v := 0) C.1.1 C.1.2.1 d_Rd_readItem_45 (by decide) ?_
      obtain rfl := Option.some.inj h
      exact x_zret C hW rfl rfl rfl hQ d_Rd_readItem_46
    · replace h := it_f cc h
      refine lv_iload_n C.1.1 C.1.2.1 d_Rd_readItem_24 rfl (lv_at hl 2 rfl) ?_
      refine lv_iload_n C.1.1 C.1.2.1 d_Rd_readItem_25 rfl (lv_at hl 0 rfl) ?_
      refine jn_at (P := fun (x2 : Int32) => ∀ (H : Heap) (locs : List Loc) (ls : Array Slot), Wd G A s.heap H locs [(aN, .inr (0, [.int N_width, .int N_height, .long N_everywhere, .long N_firstColumn, .long N_lastColumn, .ref aN_grounds, .ref aN_airs, .ref aN_tolds, .ref aN_fees, .ref aN_lets, .int N_makers, .ref aN_kinds, .ref aN_cells, .ref aN_selves, .ref aN_cries, .int N_leaves, .ref aN_parts, .int N_pasts, .ref aN_past])), (aN_grounds, .inl (gJ G, 3, .inr (.inl N_grounds))), (aN_airs, .inl (gJ G, 6, .inr (.inl N_airs))), (aN_tolds, .inl (gJ G, 3, .inr (.inl N_tolds))), (aN_fees, .inl (gI G, 6, .inl N_fees)), (aN_lets, .inl (gI G, 6, .inl N_lets)), (aN_kinds, .inl (gI G, 6, .inl N_kinds)), (aN_cells, .inl (gI G, 6, .inl N_cells)), (aN_selves, .inl (gI G, 6, .inl N_selves)), (aN_cries, .inl (gI G, 6, .inl N_cries)), (aN_parts, .inl (gI G, 40, .inl N_parts)), (aR, .inr (1, [.ref aR_text, .int R_length, .ref aN, .int R_place, .int R_end, .int R_token, .ref aR_numbers])), (aR_text, .inl (gB G, 150, .inl R_text)), (aR_numbers, .inl (gI G, 5, .inl R_numbers))] → lv_has ls 5 [(0, .ref aR), (2, .int x1)] → W p l e (RM 6 128) s m args below meth c H locs 0 0 Q (F0 m 34 ls [.int x2, .int p1])) h ?_ ?_
      · skip
        intro x2 h
        intro H locs ls hW hl
        refine lv_icmp_ne (tgt := 45) C.1.1 C.1.2.1 d_Rd_readItem_34 (by decide) (fun cc => ?_) (fun cc => ?_)
        · replace h := it_f cc h
          refine lv_iconst (v := 0) C.1.1 C.1.2.1 d_Rd_readItem_45 (by decide) ?_
          obtain rfl := Option.some.inj h
          exact x_zret C hW rfl rfl rfl hQ d_Rd_readItem_46
        · replace h := it_t cc h
          refine lv_aload_n C.1.1 C.1.2.1 d_Rd_readItem_37 rfl (lv_at hl 0 rfl) ?_
          refine lv_iload_n C.1.1 C.1.2.1 d_Rd_readItem_38 rfl (lv_at hl 1 rfl) ?_
          obtain ⟨x3, hc4, h⟩ := bd_at h
          refine x_callV (ws' := [(aN, .inr (0, [.int N_width, .int N_height, .long N_everywhere, .long N_firstColumn, .long N_lastColumn, .ref aN_grounds, .ref aN_airs, .ref aN_tolds, .ref aN_fees, .ref aN_lets, .int N_makers, .ref aN_kinds, .ref aN_cells, .ref aN_selves, .ref aN_cries, .int N_leaves, .ref aN_parts, .int N_pasts, .ref aN_past])), (aN_grounds, .inl (gJ G, 3, .inr (.inl N_grounds))), (aN_airs, .inl (gJ G, 6, .inr (.inl N_airs))), (aN_tolds, .inl (gJ G, 3, .inr (.inl N_tolds))), (aN_fees, .inl (gI G, 6, .inl N_fees)), (aN_lets, .inl (gI G, 6, .inl N_lets)), (aN_kinds, .inl (gI G, 6, .inl N_kinds)), (aN_cells, .inl (gI G, 6, .inl N_cells)), (aN_selves, .inl (gI G, 6, .inl N_selves)), (aN_cries, .inl (gI G, 6, .inl N_cries)), (aN_parts, .inl (gI G, 40, .inl N_parts)), (aR, .inr (1, [.ref aR_text, .int R_length, .ref aN, .int R_place, .int R_end, .int R_token, .ref aR_numbers])), (aR_text, .inl (gB G, 150, .inl R_text)), (aR_numbers, .inl (gI G, 5, .inl R_numbers))]) (stk := [.int x3]) (rest := []) (As := [.int x1]) (q0 := 11) C hE hW (c_Rd_isTooMany l G aN aN_grounds aN_airs aN_tolds aN_fees aN_lets aN_kinds aN_cells aN_selves aN_cries aN_parts aN_past aR aR_text aR_numbers N_width N_height N_everywhere N_firstColumn N_lastColumn N_makers N_leaves N_pasts R_length R_place R_end R_token x1 hc4) cv_Rd_isTooMany tw514 hl rfl rfl (Nat.le_of_ble_eq_true rfl) rfl rfl rfl ⟨Nat.le_of_ble_eq_true rfl, Nat.le_of_ble_eq_true rfl⟩ ⟨Nat.zero_le _, Nat.zero_le _⟩ [0, 11] [1, 2, 3, 4, 5, 6, 7, 8, 9, 10, 12, 13] [12, 0, 1, 2, 3, 4, 5, 6, 7, 8, 9, 13, 10, 11] rfl rfl rfl (by decide) rfl rfl rfl rfl d_Rd_readItem_39 (fun H locs hW => ?_)
          refine lv_if_eq (tgt := 47) C.1.1 C.1.2.1 d_Rd_readItem_42 (by decide) (fun cc => ?_) (fun cc => ?_)
          · replace h := it_t cc h
            refine lv_iconst (v := 0) C.1.1 C.1.2.1 d_Rd_readItem_47 (by decide) ?_
            refine lv_istore_n (lv' := [(3, .int 0), (0, .ref aR), (2, .int x1)]) C.1.1 C.1.2.1 d_Rd_readItem_48 rfl hl (by decide) rfl (fun ls hl => ?_)
            refine jn_at (P := fun ((x5, x6, x7, x8) : Int32 × Int32 × Int32 × (Nat → Int32)) => ∀ (H : Heap) (locs : List Loc) (ls : Array Slot), Wd G A s.heap H locs [(aN, .inr (0, [.int N_width, .int N_height, .long N_everywhere, .long N_firstColumn, .long N_lastColumn, .ref aN_grounds, .ref aN_airs, .ref aN_tolds, .ref aN_fees, .ref aN_lets, .int N_makers, .ref aN_kinds, .ref aN_cells, .ref aN_selves, .ref aN_cries, .int N_leaves, .ref aN_parts, .int N_pasts, .ref aN_past])), (aN_grounds, .inl (gJ G, 3, .inr (.inl N_grounds))), (aN_airs, .inl (gJ G, 6, .inr (.inl N_airs))), (aN_tolds, .inl (gJ G, 3, .inr (.inl N_tolds))), (aN_fees, .inl (gI G, 6, .inl N_fees)), (aN_lets, .inl (gI G, 6, .inl N_lets)), (aN_kinds, .inl (gI G, 6, .inl N_kinds)), (aN_cells, .inl (gI G, 6, .inl N_cells)), (aN_selves, .inl (gI G, 6, .inl N_selves)), (aN_cries, .inl (gI G, 6, .inl N_cries)), (aN_parts, .inl (gI G, 40, .inl N_parts)), (aR, .inr (1, [.ref aR_text, .int R_length, .ref aN, .int x5, .int x6, .int x7, .ref aR_numbers])), (aR_text, .inl (gB G, 150, .inl R_text)), (aR_numbers, .inl (gI G, 5, .inl x8))] → lv_has ls 5 [(0, .ref aR), (2, .int x1)] → W p l e (RM 6 128) s m args below meth c H locs 0 0 Q (F0 m 126 ls [])) h ?_ ?_
            · skip
              intro x h
              obtain ⟨x5, x6, x7, x8⟩ := x
              intro H locs ls hW hl
              refine lv_aload_n C.1.1 C.1.2.1 d_Rd_readItem_126 rfl (lv_at hl 0 rfl) ?_
              obtain ⟨⟨x9, x10, x11⟩, hc12, h⟩ := bd_at h
              refine x_callV (ws' := [(aN, .inr (0, [.int N_width, .int N_height, .long N_everywhere, .long N_firstColumn, .long N_lastColumn, .ref aN_grounds, .ref aN_airs, .ref aN_tolds, .ref aN_fees, .ref aN_lets, .int N_makers, .ref aN_kinds, .ref aN_cells, .ref aN_selves, .ref aN_cries, .int N_leaves, .ref aN_parts, .int N_pasts, .ref aN_past])), (aN_grounds, .inl (gJ G, 3, .inr (.inl N_grounds))), (aN_airs, .inl (gJ G, 6, .inr (.inl N_airs))), (aN_tolds, .inl (gJ G, 3, .inr (.inl N_tolds))), (aN_fees, .inl (gI G, 6, .inl N_fees)), (aN_lets, .inl (gI G, 6, .inl N_lets)), (aN_kinds, .inl (gI G, 6, .inl N_kinds)), (aN_cells, .inl (gI G, 6, .inl N_cells)), (aN_selves, .inl (gI G, 6, .inl N_selves)), (aN_cries, .inl (gI G, 6, .inl N_cries)), (aN_parts, .inl (gI G, 40, .inl N_parts)), (aR, .inr (1, [.ref aR_text, .int R_length, .ref aN, .int x9, .int x10, .int x11, .ref aR_numbers])), (aR_text, .inl (gB G, 150, .inl R_text)), (aR_numbers, .inl (gI G, 5, .inl x8))]) (stk := []) (rest := []) (As := []) (q0 := 11) C hE hW (c_Rd_nextToken l G aR aR_text aR_numbers R_length aN x5 x6 x7 R_text hc12) cv_Rd_nextToken tw431 hl rfl rfl (Nat.le_of_ble_eq_true rfl) rfl rfl rfl ⟨Nat.le_of_ble_eq_true rfl, Nat.le_of_ble_eq_true rfl⟩ ⟨Nat.zero_le _, Nat.zero_le _⟩ [11, 12] [0, 1, 2, 3, 4, 5, 6, 7, 8, 9, 10, 13] [0, 1, 2, 3, 4, 5, 6, 7, 8, 9, 10, 12, 13, 11] rfl rfl rfl (by decide) rfl rfl rfl rfl d_Rd_readItem_127 (fun H locs hW => ?_)
              refine lv_aload_n C.1.1 C.1.2.1 d_Rd_readItem_130 rfl (lv_at hl 0 rfl) ?_
              refine x_get C hE hW fl_Rd_33 11 rfl rfl d_Rd_readItem_131 ?_
              refine lv_iconst (v := 3) C.1.1 C.1.2.1 d_Rd_readItem_134 (by decide) ?_
              refine lv_icmp_eq (tgt := 140) C.1.1 C.1.2.1 d_Rd_readItem_135 (by decide) (fun cc => ?_) (fun cc => ?_)
              · replace h := it_t cc h
                refine lv_aload_n C.1.1 C.1.2.1 d_Rd_readItem_140 rfl (lv_at hl 0 rfl) ?_
                refine lv_iload_n C.1.1 C.1.2.1 d_Rd_readItem_141 rfl (lv_at hl 1 rfl) ?_
                obtain ⟨⟨x13, x14, x15, x16, x17, x18, x19, x20, x21, x22, x23, x24, x25, x26, x27, x28, x29, x30⟩, hc31, h⟩ := bd_at h
                refine x_callV (ws' := [(aN, .inr (0, [.int x13, .int x14, .long x15, .long x16, .long x17, .ref aN_grounds, .ref aN_airs, .ref aN_tolds, .ref aN_fees, .ref aN_lets, .int x23, .ref aN_kinds, .ref aN_cells, .ref aN_selves, .ref aN_cries, .int x28, .ref aN_parts, .int x30, .ref aN_past])), (aN_grounds, .inl (gJ G, 3, .inr (.inl x18))), (aN_airs, .inl (gJ G, 6, .inr (.inl x19))), (aN_tolds, .inl (gJ G, 3, .inr (.inl x20))), (aN_fees, .inl (gI G, 6, .inl x21)), (aN_lets, .inl (gI G, 6, .inl x22)), (aN_kinds, .inl (gI G, 6, .inl x24)), (aN_cells, .inl (gI G, 6, .inl x25)), (aN_selves, .inl (gI G, 6, .inl x26)), (aN_cries, .inl (gI G, 6, .inl x27)), (aN_parts, .inl (gI G, 40, .inl x29)), (aR, .inr (1, [.ref aR_text, .int R_length, .ref aN, .int x9, .int x10, .int x11, .ref aR_numbers])), (aR_text, .inl (gB G, 150, .inl R_text)), (aR_numbers, .inl (gI G, 5, .inl x8))]) (stk := []) (rest := []) (As := [.int x1]) (q0 := 11) C hE hW (c_Rd_tell l G aN aN_grounds aN_airs aN_tolds aN_fees aN_lets aN_kinds aN_cells aN_selves aN_cries aN_parts aN_past aR aR_text aR_numbers N_width N_height N_everywhere N_firstColumn N_lastColumn N_makers N_leaves N_pasts R_length x9 x10 x11 N_grounds N_airs N_tolds N_fees N_lets N_kinds N_cells N_selves N_cries N_parts x8 x1 hc31) cv_Rd_tell tw541 hl rfl rfl (Nat.le_of_ble_eq_true rfl) rfl rfl rfl ⟨Nat.le_of_ble_eq_true rfl, Nat.le_of_ble_eq_true rfl⟩ ⟨Nat.zero_le _, Nat.zero_le _⟩ [0, 1, 2, 3, 4, 5, 6, 7, 8, 9, 10, 11, 13] [12] [1, 2, 3, 4, 5, 6, 7, 8, 9, 10, 11, 12, 0, 13] rfl rfl rfl (by decide) rfl rfl rfl rfl d_Rd_readItem_142 (fun H locs hW => ?_)
                refine lv_iconst (v := 1) C.1.1 C.1.2.1 d_Rd_readItem_145 (by decide) ?_
                obtain rfl := Option.some.inj h
                exact x_zret C hW rfl rfl rfl hQ d_Rd_readItem_146
              · replace h := it_f cc h
                refine lv_iconst (v := 0) C.1.1 C.1.2.1 d_Rd_readItem_138 (by decide) ?_
                obtain rfl := Option.some.inj h
                exact x_zret C hW rfl rfl rfl hQ d_Rd_readItem_139
            · intro J126 hJ126 h
              refine lp_at (P := fun ((x32, x33, x34, x35, x36) : Int32 × Int32 × Int32 × Int32 × (Nat → Int32)) => ∀ (H : Heap) (locs : List Loc) (ls : Array Slot), Wd G A s.heap H locs [(aN, .inr (0, [.int N_width, .int N_height, .long N_everywhere, .long N_firstColumn, .long N_lastColumn, .ref aN_grounds, .ref aN_airs, .ref aN_tolds, .ref aN_fees, .ref aN_lets, .int N_makers, .ref aN_kinds, .ref aN_cells, .ref aN_selves, .ref aN_cries, .int N_leaves, .ref aN_parts, .int N_pasts, .ref aN_past])), (aN_grounds, .inl (gJ G, 3, .inr (.inl N_grounds))), (aN_airs, .inl (gJ G, 6, .inr (.inl N_airs))), (aN_tolds, .inl (gJ G, 3, .inr (.inl N_tolds))), (aN_fees, .inl (gI G, 6, .inl N_fees)), (aN_lets, .inl (gI G, 6, .inl N_lets)), (aN_kinds, .inl (gI G, 6, .inl N_kinds)), (aN_cells, .inl (gI G, 6, .inl N_cells)), (aN_selves, .inl (gI G, 6, .inl N_selves)), (aN_cries, .inl (gI G, 6, .inl N_cries)), (aN_parts, .inl (gI G, 40, .inl N_parts)), (aR, .inr (1, [.ref aR_text, .int R_length, .ref aN, .int x33, .int x34, .int x35, .ref aR_numbers])), (aR_text, .inl (gB G, 150, .inl R_text)), (aR_numbers, .inl (gI G, 5, .inl x36))] → lv_has ls 5 [(0, .ref aR), (2, .int x1), (3, .int x32)] → W p l e (RM 6 128) s m args below meth c H locs 0 0 Q (F0 m 49 ls [])) ?_ FU _ h _ _ _ hW (lv_sub hl [1, 2, 0] rfl)
              clear h hl hW
              intro rec49 ih49
              intro x h
              obtain ⟨x32, x33, x34, x35, x36⟩ := x
              unfold f_Rd_readItem_L49 at h
              intro H locs ls hW hl
              refine lv_iload_n C.1.1 C.1.2.1 d_Rd_readItem_49 rfl (lv_at hl 2 rfl) ?_
              refine lv_iload_n C.1.1 C.1.2.1 d_Rd_readItem_50 rfl (lv_at hl 1 rfl) ?_
              obtain ⟨x37, hc38, h⟩ := bd_at h
              refine x_callS (ws' := [(aN, .inr (0, [.int N_width, .int N_height, .long N_everywhere, .long N_firstColumn, .long N_lastColumn, .ref aN_grounds, .ref aN_airs, .ref aN_tolds, .ref aN_fees, .ref aN_lets, .int N_makers, .ref aN_kinds, .ref aN_cells, .ref aN_selves, .ref aN_cries, .int N_leaves, .ref aN_parts, .int N_pasts, .ref aN_past])), (aN_grounds, .inl (gJ G, 3, .inr (.inl N_grounds))), (aN_airs, .inl (gJ G, 6, .inr (.inl N_airs))), (aN_tolds, .inl (gJ G, 3, .inr (.inl N_tolds))), (aN_fees, .inl (gI G, 6, .inl N_fees)), (aN_lets, .inl (gI G, 6, .inl N_lets)), (aN_kinds, .inl (gI G, 6, .inl N_kinds)), (aN_cells, .inl (gI G, 6, .inl N_cells)), (aN_selves, .inl (gI G, 6, .inl N_selves)), (aN_cries, .inl (gI G, 6, .inl N_cries)), (aN_parts, .inl (gI G, 40, .inl N_parts)), (aR, .inr (1, [.ref aR_text, .int R_length, .ref aN, .int x33, .int x34, .int x35, .ref aR_numbers])), (aR_text, .inl (gB G, 150, .inl R_text)), (aR_numbers, .inl (gI G, 5, .inl x36))]) (stk := [.int x37, .int x32]) (rest := [.int x32]) (As := [.int x1]) C hE hW (c_Rd_numbersOf l G x1 hc38) cv_Rd_numbersOf tw518 hl rfl rfl (Nat.le_of_ble_eq_true rfl) ⟨Nat.le_of_ble_eq_true rfl, Nat.le_of_ble_eq_true rfl⟩ ⟨Nat.zero_le _, Nat.zero_le _⟩ [] [0, 1, 2, 3, 4, 5, 6, 7, 8, 9, 10, 11, 12, 13] [0, 1, 2, 3, 4, 5, 6, 7, 8, 9, 10, 11, 12, 13] rfl rfl rfl (by decide) rfl rfl rfl rfl d_Rd_readItem_51 (fun H locs hW => ?_)
              refine lv_icmp_ge (tgt := 126) C.1.1 C.1.2.1 d_Rd_readItem_54 (by decide) (fun cc => ?_) (fun cc => ?_)
              · replace h := it_t cc h
                exact hJ126 _ h _ _ _ hW (lv_sub hl [0, 1] rfl)
              · replace h := it_f cc h
                refine lv_iload_n C.1.1 C.1.2.1 d_Rd_readItem_57 rfl (lv_at hl 2 rfl) ?_
                refine lv_aload_n C.1.1 C.1.2.1 d_Rd_readItem_58 rfl (lv_at hl 0 rfl) ?_
                refine x_get C hE hW fl_Rd_15 11 rfl rfl d_Rd_readItem_59 ?_
                refine x_alen (v := 5) C hE hW 13 0 rfl rfl (by exact (by decide : Int32.ofNat 5 = 5)) d_Rd_readItem_62 ?_
                refine lv_icmp_ge (tgt := 126) C.1.1 C.1.2.1 d_Rd_readItem_63 (by decide) (fun cc => ?_) (fun cc => ?_)
                · replace h := it_t cc h
                  exact hJ126 _ h _ _ _ hW (lv_sub hl [0, 1] rfl)
                · replace h := it_f cc h
                  refine lv_aload_n C.1.1 C.1.2.1 d_Rd_readItem_66 rfl (lv_at hl 0 rfl) ?_
                  obtain ⟨⟨x39, x40, x41⟩, hc42, h⟩ := bd_at h
                  refine x_callV (ws' := [(aN, .inr (0, [.int N_width, .int N_height, .long N_everywhere, .long N_firstColumn, .long N_lastColumn, .ref aN_grounds, .ref aN_airs, .ref aN_tolds, .ref aN_fees, .ref aN_lets, .int N_makers, .ref aN_kinds, .ref aN_cells, .ref aN_selves, .ref aN_cries, .int N_leaves, .ref aN_parts, .int N_pasts, .ref aN_past])), (aN_grounds, .inl (gJ G, 3, .inr (.inl N_grounds))), (aN_airs, .inl (gJ G, 6, .inr (.inl N_airs))), (aN_tolds, .inl (gJ G, 3, .inr (.inl N_tolds))), (aN_fees, .inl (gI G, 6, .inl N_fees)), (aN_lets, .inl (gI G, 6, .inl N_lets)), (aN_kinds, .inl (gI G, 6, .inl N_kinds)), (aN_cells, .inl (gI G, 6, .inl N_cells)), (aN_selves, .inl (gI G, 6, .inl N_selves)), (aN_cries, .inl (gI G, 6, .inl N_cries)), (aN_parts, .inl (gI G, 40, .inl N_parts)), (aR, .inr (1, [.ref aR_text, .int R_length, .ref aN, .int x39, .int x40, .int x41, .ref aR_numbers])), (aR_text, .inl (gB G, 150, .inl R_text)), (aR_numbers, .inl (gI G, 5, .inl x36))]) (stk := []) (rest := []) (As := []) (q0 := 11) C hE hW (c_Rd_nextToken l G aR aR_text aR_numbers R_length aN x33 x34 x35 R_text hc42) cv_Rd_nextToken tw431 hl rfl rfl (Nat.le_of_ble_eq_true rfl) rfl rfl rfl ⟨Nat.le_of_ble_eq_true rfl, Nat.le_of_ble_eq_true rfl⟩ ⟨Nat.zero_le _, Nat.zero_le _⟩ [11, 12] [0, 1, 2, 3, 4, 5, 6, 7, 8, 9, 10, 13] [0, 1, 2, 3, 4, 5, 6, 7, 8, 9, 10, 12, 13, 11] rfl rfl rfl (by decide) rfl rfl rfl rfl d_Rd_readItem_67 (fun H locs hW => ?_)
                  refine lv_aload_n C.1.1 C.1.2.1 d_Rd_readItem_70 rfl (lv_at hl 0 rfl) ?_
                  refine x_get C hE hW fl_Rd_33 11 rfl rfl d_Rd_readItem_71 ?_
                  refine lv_iconst (v := 2) C.1.1 C.1.2.1 d_Rd_readItem_74 (by decide) ?_
                  refine jn_at (P := fun (x43 : Int32) => ∀ (H : Heap) (locs : List Loc) (ls : Array Slot), Wd G A s.heap H locs [(aN, .inr (0, [.int N_width, .int N_height, .long N_everywhere, .long N_firstColumn, .long N_lastColumn, .ref aN_grounds, .ref aN_airs, .ref aN_tolds, .ref aN_fees, .ref aN_lets, .int N_makers, .ref aN_kinds, .ref aN_cells, .ref aN_selves, .ref aN_cries, .int N_leaves, .ref aN_parts, .int N_pasts, .ref aN_past])), (aN_grounds, .inl (gJ G, 3, .inr (.inl N_grounds))), (aN_airs, .inl (gJ G, 6, .inr (.inl N_airs))), (aN_tolds, .inl (gJ G, 3, .inr (.inl N_tolds))), (aN_fees, .inl (gI G, 6, .inl N_fees)), (aN_lets, .inl (gI G, 6, .inl N_lets)), (aN_kinds, .inl (gI G, 6, .inl N_kinds)), (aN_cells, .inl (gI G, 6, .inl N_cells)), (aN_selves, .inl (gI G, 6, .inl N_selves)), (aN_cries, .inl (gI G, 6, .inl N_cries)), (aN_parts, .inl (gI G, 40, .inl N_parts)), (aR, .inr (1, [.ref aR_text, .int R_length, .ref aN, .int x39, .int x40, .int x41, .ref aR_numbers])), (aR_text, .inl (gB G, 150, .inl R_text)), (aR_numbers, .inl (gI G, 5, .inl x36))] → lv_has ls 5 [(0, .ref aR), (2, .int x1), (3, .int x32)] → W p l e (RM 6 128) s m args below meth c H locs 0 0 Q (F0 m 86 ls [.int x43])) h ?_ ?_
                  · skip
                    intro x43 h
                    intro H locs ls hW hl
                    refine lv_istore (lv' := [(4, .int x43), (0, .ref aR), (2, .int x1), (3, .int x32)]) C.1.1 C.1.2.1 d_Rd_readItem_86 hl (by decide) rfl (fun ls hl => ?_)
                    refine lv_iload C.1.1 C.1.2.1 d_Rd_readItem_88 (lv_at hl 0 rfl) ?_
                    refine lv_aload_n C.1.1 C.1.2.1 d_Rd_readItem_90 rfl (lv_at hl 1 rfl) ?_
                    refine lv_iload_n C.1.1 C.1.2.1 d_Rd_readItem_91 rfl (lv_at hl 2 rfl) ?_
                    refine lv_iload_n C.1.1 C.1.2.1 d_Rd_readItem_92 rfl (lv_at hl 3 rfl) ?_
                    obtain ⟨x44, hc45, h⟩ := bd_at h
                    refine x_callV (ws' := [(aN, .inr (0, [.int N_width, .int N_height, .long N_everywhere, .long N_firstColumn, .long N_lastColumn, .ref aN_grounds, .ref aN_airs, .ref aN_tolds, .ref aN_fees, .ref aN_lets, .int N_makers, .ref aN_kinds, .ref aN_cells, .ref aN_selves, .ref aN_cries, .int N_leaves, .ref aN_parts, .int N_pasts, .ref aN_past])), (aN_grounds, .inl (gJ G, 3, .inr (.inl N_grounds))), (aN_airs, .inl (gJ G, 6, .inr (.inl N_airs))), (aN_tolds, .inl (gJ G, 3, .inr (.inl N_tolds))), (aN_fees, .inl (gI G, 6, .inl N_fees)), (aN_lets, .inl (gI G, 6, .inl N_lets)), (aN_kinds, .inl (gI G, 6, .inl N_kinds)), (aN_cells, .inl (gI G, 6, .inl N_cells)), (aN_selves, .inl (gI G, 6, .inl N_selves)), (aN_cries, .inl (gI G, 6, .inl N_cries)), (aN_parts, .inl (gI G, 40, .inl N_parts)), (aR, .inr (1, [.ref aR_text, .int R_length, .ref aN, .int x39, .int x40, .int x41, .ref aR_numbers])), (aR_text, .inl (gB G, 150, .inl R_text)), (aR_numbers, .inl (gI G, 5, .inl x36))]) (stk := [.int x44, .int x43]) (rest := [.int x43]) (As := [.int x1, .int x32]) (q0 := 11) C hE hW (c_Rd_least l G aR aR_text aR_numbers R_length aN x39 x40 x41 x36 x1 x32 hc45) cv_Rd_least tw525 hl rfl rfl (Nat.le_of_ble_eq_true rfl) rfl rfl rfl ⟨Nat.le_of_ble_eq_true rfl, Nat.le_of_ble_eq_true rfl⟩ ⟨Nat.zero_le _, Nat.zero_le _⟩ [11, 13] [0, 1, 2, 3, 4, 5, 6, 7, 8, 9, 10, 12] [0, 1, 2, 3, 4, 5, 6, 7, 8, 9, 10, 12, 11, 13] rfl rfl rfl (by decide) rfl rfl rfl rfl d_Rd_readItem_93 (fun H locs hW => ?_)
                    refine lv_icmp_lt (tgt := 110) C.1.1 C.1.2.1 d_Rd_readItem_96 (by decide) (fun cc => ?_) (fun cc => ?_)
                    · replace h := it_t cc h
                      refine lv_iconst (v := 0) C.1.1 C.1.2.1 d_Rd_readItem_110 (by decide) ?_
                      obtain rfl := Option.some.inj h
                      exact x_zret C hW rfl rfl rfl hQ d_Rd_readItem_111
                    · replace h := it_f cc h
                      refine lv_iload C.1.1 C.1.2.1 d_Rd_readItem_99 (lv_at hl 0 rfl) ?_
                      refine lv_aload_n C.1.1 C.1.2.1 d_Rd_readItem_101 rfl (lv_at hl 1 rfl) ?_
                      refine lv_iload_n C.1.1 C.1.2.1 d_Rd_readItem_102 rfl (lv_at hl 2 rfl) ?_
                      refine lv_iload_n C.1.1 C.1.2.1 d_Rd_readItem_103 rfl (lv_at hl 3 rfl) ?_
                      obtain ⟨x46, hc47, h⟩ := bd_at h
                      refine x_callV (ws' := [(aN, .inr (0, [.int N_width, .int N_height, .long N_everywhere, .long N_firstColumn, .long N_lastColumn, .ref aN_grounds, .ref aN_airs, .ref aN_tolds, .ref aN_fees, .ref aN_lets, .int N_makers, .ref aN_kinds, .ref aN_cells, .ref aN_selves, .ref aN_cries, .int N_leaves, .ref aN_parts, .int N_pasts, .ref aN_past])), (aN_grounds, .inl (gJ G, 3, .inr (.inl N_grounds))), (aN_airs, .inl (gJ G, 6, .inr (.inl N_airs))), (aN_tolds, .inl (gJ G, 3, .inr (.inl N_tolds))), (aN_fees, .inl (gI G, 6, .inl N_fees)), (aN_lets, .inl (gI G, 6, .inl N_lets)), (aN_kinds, .inl (gI G, 6, .inl N_kinds)), (aN_cells, .inl (gI G, 6, .inl N_cells)), (aN_selves, .inl (gI G, 6, .inl N_selves)), (aN_cries, .inl (gI G, 6, .inl N_cries)), (aN_parts, .inl (gI G, 40, .inl N_parts)), (aR, .inr (1, [.ref aR_text, .int R_length, .ref aN, .int x39, .int x40, .int x41, .ref aR_numbers])), (aR_text, .inl (gB G, 150, .inl R_text)), (aR_numbers, .inl (gI G, 5, .inl x36))]) (stk := [.int x46, .int x43]) (rest := [.int x43]) (As := [.int x1, .int x32]) (q0 := 11) C hE hW (c_Rd_most l G aN aN_grounds aN_airs aN_tolds aN_fees aN_lets aN_kinds aN_cells aN_selves aN_cries aN_parts aN_past aR aR_text aR_numbers N_width N_height N_everywhere N_firstColumn N_lastColumn N_makers N_leaves N_pasts R_length x39 x40 x41 x1 x32 hc47) cv_Rd_most tw529 hl rfl rfl (Nat.le_of_ble_eq_true rfl) rfl rfl rfl ⟨Nat.le_of_ble_eq_true rfl, Nat.le_of_ble_eq_true rfl⟩ ⟨Nat.zero_le _, Nat.zero_le _⟩ [0, 11] [1, 2, 3, 4, 5, 6, 7, 8, 9, 10, 12, 13] [12, 0, 1, 2, 3, 4, 5, 6, 7, 8, 9, 13, 10, 11] rfl rfl rfl (by decide) rfl rfl rfl rfl d_Rd_readItem_104 (fun H locs hW => ?_)
                      refine lv_icmp_le (tgt := 112) C.1.1 C.1.2.1 d_Rd_readItem_107 (by decide) (fun cc => ?_) (fun cc => ?_)
                      · replace h := it_t cc h
                        refine lv_aload_n C.1.1 C.1.2.1 d_Rd_readItem_112 rfl (lv_at hl 1 rfl) ?_
                        refine x_get C hE hW fl_Rd_15 11 rfl rfl d_Rd_readItem_113 ?_
                        refine lv_iload_n C.1.1 C.1.2.1 d_Rd_readItem_116 rfl (lv_at hl 3 rfl) ?_
                        refine lv_iload C.1.1 C.1.2.1 d_Rd_readItem_117 (lv_at hl 0 rfl) ?_
                        obtain ⟨hg, h⟩ := gd_at h
                        obtain ⟨x48, ex48⟩ : ∃ y : Nat → Int32, y = upd x36 x32.toNatClampNeg x43 := ⟨_, rfl⟩
                        replace h := lt_at ex48 h
                        refine x_iast (ws' := [(aN, .inr (0, [.int N_width, .int N_height, .long N_everywhere, .long N_firstColumn, .long N_lastColumn, .ref aN_grounds, .ref aN_airs, .ref aN_tolds, .ref aN_fees, .ref aN_lets, .int N_makers, .ref aN_kinds, .ref aN_cells, .ref aN_selves, .ref aN_cries, .int N_leaves, .ref aN_parts, .int N_pasts, .ref aN_past])), (aN_grounds, .inl (gJ G, 3, .inr (.inl N_grounds))), (aN_airs, .inl (gJ G, 6, .inr (.inl N_airs))), (aN_tolds, .inl (gJ G, 3, .inr (.inl N_tolds))), (aN_fees, .inl (gI G, 6, .inl N_fees)), (aN_lets, .inl (gI G, 6, .inl N_lets)), (aN_kinds, .inl (gI G, 6, .inl N_kinds)), (aN_cells, .inl (gI G, 6, .inl N_cells)), (aN_selves, .inl (gI G, 6, .inl N_selves)), (aN_cries, .inl (gI G, 6, .inl N_cries)), (aN_parts, .inl (gI G, 40, .inl N_parts)), (aR, .inr (1, [.ref aR_text, .int R_length, .ref aN, .int x39, .int x40, .int x41, .ref aR_numbers])), (aR_text, .inl (gB G, 150, .inl R_text)), (aR_numbers, .inl (gI G, 5, .inl x48))]) C hE hW 13 rfl (inB_in hg) (by subst ex48; rfl) d_Rd_readItem_119 (fun H locs hW => ?_)
                        obtain ⟨x49, ex49⟩ : ∃ y : Int32, y = x32 + 1 := ⟨_, rfl⟩
                        replace h := lt_at ex49 h
                        refine lv_iinc (v := x49) (lv' := [(3, .int x49), (4, .int x43), (0, .ref aR), (2, .int x1)]) C.1.1 C.1.2.1 d_Rd_readItem_120 hl (k := 3) rfl (by rw [ex49]; rfl) (by decide) rfl (fun ls hl => ?_)
                        refine lv_goto (tgt := 49) C.1.1 C.1.2.1 d_Rd_readItem_123 (by decide) ?_
                        exact ih49 _ h _ _ _ hW (lv_sub hl [2, 3, 0] rfl)
                      · replace h := it_f cc h
                        refine lv_iconst (v := 0) C.1.1 C.1.2.1 d_Rd_readItem_110 (by decide) ?_
                        obtain rfl := Option.some.inj h
                        exact x_zret C hW rfl rfl rfl hQ d_Rd_readItem_111
                  · intro J86 hJ86 h
                    refine lv_icmp_ne (tgt := 85) C.1.1 C.1.2.1 d_Rd_readItem_75 (by decide) (fun cc => ?_) (fun cc => ?_)
                    · replace h := it_f cc h
                      refine lv_iconst (v := (-1)) C.1.1 C.1.2.1 d_Rd_readItem_85 (by decide) ?_
                      exact hJ86 _ h _ _ _ hW (lv_sub hl [0, 1, 2] rfl)
                    · replace h := it_t cc h
                      refine lv_aload_n C.1.1 C.1.2.1 d_Rd_readItem_78 rfl (lv_at hl 0 rfl) ?_
                      obtain ⟨x50, hc51, h⟩ := bd_at h
                      refine x_callV (ws' := [(aN, .inr (0, [.int N_width, .int N_height, .long N_everywhere, .long N_firstColumn, .long N_lastColumn, .ref aN_grounds, .ref aN_airs, .ref aN_tolds, .ref aN_fees, .ref aN_lets, .int N_makers, .ref aN_kinds, .ref aN_cells, .ref aN_selves, .ref aN_cries, .int N_leaves, .ref aN_parts, .int N_pasts, .ref aN_past])), (aN_grounds, .inl (gJ G, 3, .inr (.inl N_grounds))), (aN_airs, .inl (gJ G, 6, .inr (.inl N_airs))), (aN_tolds, .inl (gJ G, 3, .inr (.inl N_tolds))), (aN_fees, .inl (gI G, 6, .inl N_fees)), (aN_lets, .inl (gI G, 6, .inl N_lets)), (aN_kinds, .inl (gI G, 6, .inl N_kinds)), (aN_cells, .inl (gI G, 6, .inl N_cells)), (aN_selves, .inl (gI G, 6, .inl N_selves)), (aN_cries, .inl (gI G, 6, .inl N_cries)), (aN_parts, .inl (gI G, 40, .inl N_parts)), (aR, .inr (1, [.ref aR_text, .int R_length, .ref aN, .int x39, .int x40, .int x41, .ref aR_numbers])), (aR_text, .inl (gB G, 150, .inl R_text)), (aR_numbers, .inl (gI G, 5, .inl x36))]) (stk := [.int x50]) (rest := []) (As := []) (q0 := 11) C hE hW (c_Rd_numberAtPlace l G aR aR_text aR_numbers R_length aN x39 x40 x41 R_text hc51) cv_Rd_numberAtPlace tw521 hl rfl rfl (Nat.le_of_ble_eq_true rfl) rfl rfl rfl ⟨Nat.le_of_ble_eq_true rfl, Nat.le_of_ble_eq_true rfl⟩ ⟨Nat.zero_le _, Nat.zero_le _⟩ [11, 12] [0, 1, 2, 3, 4, 5, 6, 7, 8, 9, 10, 13] [0, 1, 2, 3, 4, 5, 6, 7, 8, 9, 10, 12, 13, 11] rfl rfl rfl (by decide) rfl rfl rfl rfl d_Rd_readItem_79 (fun H locs hW => ?_)
                      refine lv_goto (tgt := 86) C.1.1 C.1.2.1 d_Rd_readItem_82 (by decide) ?_
                      exact hJ86 _ h _ _ _ hW (lv_sub hl [0, 1, 2] rfl)
          · replace h := it_f cc h
            refine lv_iconst (v := 0) C.1.1 C.1.2.1 d_Rd_readItem_45 (by decide) ?_
            obtain rfl := Option.some.inj h
            exact x_zret C hW rfl rfl rfl hQ d_Rd_readItem_46
      · intro J34 hJ34 h
        refine lv_if_ne (tgt := 33) C.1.1 C.1.2.1 d_Rd_readItem_26 (by decide) (fun cc => ?_) (fun cc => ?_)
        · replace h := it_f cc h
          refine lv_iconst (v := 0) C.1.1 C.1.2.1 d_Rd_readItem_33 (by decide) ?_
          exact hJ34 _ h _ _ _ hW (lv_sub hl [1, 0] rfl)
        · replace h := it_t cc h
          refine lv_iconst (v := 1) C.1.1 C.1.2.1 d_Rd_readItem_29 (by decide) ?_
          refine lv_goto (tgt := 34) C.1.1 C.1.2.1 d_Rd_readItem_30 (by decide) ?_
          exact hJ34 _ h _ _ _ hW (lv_sub hl [1, 0] rfl)
  · intro J17 hJ17 h
    refine lv_icmp_ne (tgt := 15) C.1.1 C.1.2.1 d_Rd_readItem_5 (by decide) (fun cc => ?_) (fun cc => ?_)
    · replace h := it_f cc h
      refine lv_bipush (v := 6) C.1.1 C.1.2.1 d_Rd_readItem_15 (by decide) ?_
      exact hJ17 _ h _ _ _ hW (lv_sub hl [0, 1] rfl)
    · replace h := it_t cc h
      refine lv_aload_n C.1.1 C.1.2.1 d_Rd_readItem_8 rfl (lv_at hl 0 rfl) ?_
      obtain ⟨x52, hc53, h⟩ := bd_at h
      refine x_callV (ws' := [(aN, .inr (0, [.int N_width, .int N_height, .long N_everywhere, .long N_firstColumn, .long N_lastColumn, .ref aN_grounds, .ref aN_airs, .ref aN_tolds, .ref aN_fees, .ref aN_lets, .int N_makers, .ref aN_kinds, .ref aN_cells, .ref aN_selves, .ref aN_cries, .int N_leaves, .ref aN_parts, .int N_pasts, .ref aN_past])), (aN_grounds, .inl (gJ G, 3, .inr (.inl N_grounds))), (aN_airs, .inl (gJ G, 6, .inr (.inl N_airs))), (aN_tolds, .inl (gJ G, 3, .inr (.inl N_tolds))), (aN_fees, .inl (gI G, 6, .inl N_fees)), (aN_lets, .inl (gI G, 6, .inl N_lets)), (aN_kinds, .inl (gI G, 6, .inl N_kinds)), (aN_cells, .inl (gI G, 6, .inl N_cells)), (aN_selves, .inl (gI G, 6, .inl N_selves)), (aN_cries, .inl (gI G, 6, .inl N_cries)), (aN_parts, .inl (gI G, 40, .inl N_parts)), (aR, .inr (1, [.ref aR_text, .int R_length, .ref aN, .int R_place, .int R_end, .int R_token, .ref aR_numbers])), (aR_text, .inl (gB G, 150, .inl R_text)), (aR_numbers, .inl (gI G, 5, .inl R_numbers))]) (stk := [.int x52]) (rest := []) (As := []) (q0 := 11) C hE hW (c_Rd_wordAtPlace l G aR aR_text aR_numbers R_length aN R_place R_end R_token R_text hc53) cv_Rd_wordAtPlace tw449 hl rfl rfl (Nat.le_of_ble_eq_true rfl) rfl rfl rfl ⟨Nat.le_of_ble_eq_true rfl, Nat.le_of_ble_eq_true rfl⟩ ⟨Nat.zero_le _, Nat.zero_le _⟩ [11, 12] [0, 1, 2, 3, 4, 5, 6, 7, 8, 9, 10, 13] [0, 1, 2, 3, 4, 5, 6, 7, 8, 9, 10, 12, 13, 11] rfl rfl rfl (by decide) rfl rfl rfl rfl d_Rd_readItem_9 (fun H locs hW => ?_)
      refine lv_goto (tgt := 17) C.1.1 C.1.2.1 d_Rd_readItem_12 (by decide) ?_
      exact hJ17 _ h _ _ _ hW (lv_sub hl [0, 1] rfl)
set_option maxHeartbeats 4000000 in
set_option maxRecDepth 100000 in
theorem c_Rd_readInto (l : Launch) (G : Gl) (aN : Nat) (aN_grounds : Nat) (aN_airs : Nat) (aN_tolds : Nat) (aN_fees : Nat) (aN_lets : Nat) (aN_kinds : Nat) (aN_cells : Nat) (aN_selves : Nat) (aN_cries : Nat) (aN_parts : Nat) (aN_past : Nat) (aR : Nat) (aR_text : Nat) (aR_numbers : Nat) (N_width : Int32) (N_height : Int32) (N_everywhere : Int64) (N_firstColumn : Int64) (N_lastColumn : Int64) (N_makers : Int32) (N_leaves : Int32) (N_pasts : Int32) (R_length : Int32) (R_land : Nat) (R_place : Int32) (R_end : Int32) (R_token : Int32) (N_grounds : Nat → Int64) (N_airs : Nat → Int64) (N_tolds : Nat → Int64) (N_fees : Nat → Int32) (N_lets : Nat → Int32) (N_kinds : Nat → Int32) (N_cells : Nat → Int32) (N_selves : Nat → Int32) (N_cries : Nat → Int32) (N_parts : Nat → Int32) (R_text : Nat → Int32) (R_numbers : Nat → Int32) {res : Int32 × Int32 × Int32 × Int64 × Int64 × Int64 × (Nat → Int64) × (Nat → Int64) × (Nat → Int64) × (Nat → Int32) × (Nat → Int32) × Int32 × (Nat → Int32) × (Nat → Int32) × (Nat → Int32) × (Nat → Int32) × Int32 × (Nat → Int32) × Int32 × Int32 × Int32 × Int32 × (Nat → Int32)} (h : f_Rd_readInto N_width N_height N_everywhere N_firstColumn N_lastColumn N_makers N_leaves N_pasts R_length N_grounds N_airs N_tolds N_fees N_lets N_kinds N_cells N_selves N_cries N_parts R_text R_numbers = some res) : Ct l y_Rd_readInto b_Rd_readInto 4 (some .int) 7 152 G [.ref aR, .ref aN] [(aN, .inr (0, [.int N_width, .int N_height, .long N_everywhere, .long N_firstColumn, .long N_lastColumn, .ref aN_grounds, .ref aN_airs, .ref aN_tolds, .ref aN_fees, .ref aN_lets, .int N_makers, .ref aN_kinds, .ref aN_cells, .ref aN_selves, .ref aN_cries, .int N_leaves, .ref aN_parts, .int N_pasts, .ref aN_past])), (aN_grounds, .inl (gJ G, 3, .inr (.inl N_grounds))), (aN_airs, .inl (gJ G, 6, .inr (.inl N_airs))), (aN_tolds, .inl (gJ G, 3, .inr (.inl N_tolds))), (aN_fees, .inl (gI G, 6, .inl N_fees)), (aN_lets, .inl (gI G, 6, .inl N_lets)), (aN_kinds, .inl (gI G, 6, .inl N_kinds)), (aN_cells, .inl (gI G, 6, .inl N_cells)), (aN_selves, .inl (gI G, 6, .inl N_selves)), (aN_cries, .inl (gI G, 6, .inl N_cries)), (aN_parts, .inl (gI G, 40, .inl N_parts)), (aR, .inr (1, [.ref aR_text, .int R_length, .ref R_land, .int R_place, .int R_end, .int R_token, .ref aR_numbers])), (aR_text, .inl (gB G, 150, .inl R_text)), (aR_numbers, .inl (gI G, 5, .inl R_numbers))] (some (.int res.1)) [(aN, .inr (0, [.int (res.2.1), .int (res.2.2.1), .long (res.2.2.2.1), .long (res.2.2.2.2.1), .long (res.2.2.2.2.2.1), .ref aN_grounds, .ref aN_airs, .ref aN_tolds, .ref aN_fees, .ref aN_lets, .int (res.2.2.2.2.2.2.2.2.2.2.2.1), .ref aN_kinds, .ref aN_cells, .ref aN_selves, .ref aN_cries, .int (res.2.2.2.2.2.2.2.2.2.2.2.2.2.2.2.2.1), .ref aN_parts, .int (res.2.2.2.2.2.2.2.2.2.2.2.2.2.2.2.2.2.2.1), .ref aN_past])), (aN_grounds, .inl (gJ G, 3, .inr (.inl (res.2.2.2.2.2.2.1)))), (aN_airs, .inl (gJ G, 6, .inr (.inl (res.2.2.2.2.2.2.2.1)))), (aN_tolds, .inl (gJ G, 3, .inr (.inl (res.2.2.2.2.2.2.2.2.1)))), (aN_fees, .inl (gI G, 6, .inl (res.2.2.2.2.2.2.2.2.2.1))), (aN_lets, .inl (gI G, 6, .inl (res.2.2.2.2.2.2.2.2.2.2.1))), (aN_kinds, .inl (gI G, 6, .inl (res.2.2.2.2.2.2.2.2.2.2.2.2.1))), (aN_cells, .inl (gI G, 6, .inl (res.2.2.2.2.2.2.2.2.2.2.2.2.2.1))), (aN_selves, .inl (gI G, 6, .inl (res.2.2.2.2.2.2.2.2.2.2.2.2.2.2.1))), (aN_cries, .inl (gI G, 6, .inl (res.2.2.2.2.2.2.2.2.2.2.2.2.2.2.2.1))), (aN_parts, .inl (gI G, 40, .inl (res.2.2.2.2.2.2.2.2.2.2.2.2.2.2.2.2.2.1))), (aR, .inr (1, [.ref aR_text, .int R_length, .ref aN, .int (res.2.2.2.2.2.2.2.2.2.2.2.2.2.2.2.2.2.2.2.1), .int (res.2.2.2.2.2.2.2.2.2.2.2.2.2.2.2.2.2.2.2.2.1), .int (res.2.2.2.2.2.2.2.2.2.2.2.2.2.2.2.2.2.2.2.2.2.1), .ref aR_numbers])), (aR_text, .inl (gB G, 150, .inl R_text)), (aR_numbers, .inl (gI G, 5, .inl (res.2.2.2.2.2.2.2.2.2.2.2.2.2.2.2.2.2.2.2.2.2.2)))] := by
  refine Ct.mk (by decide) (Nat.le_of_ble_eq_true rfl) ?_
  intro p e s m args below meth c ls A Q C hE hW hl hQ
  have C : Cx p s args m c meth "LentAir$Reader" y_Rd_readInto b_Rd_readInto 4 (some .int) := C
  have hl : lv_has ls 4 [(0, .ref aR), (1, .ref aN)] := hl
  unfold f_Rd_readInto at h
  refine lv_aload_n C.1.1 C.1.2.1 d_Rd_readInto_0 rfl (lv_at hl 0 rfl) ?_
  refine lv_aload_n C.1.1 C.1.2.1 d_Rd_readInto_1 rfl (lv_at hl 1 rfl) ?_
  refine x_put (ws' := [(aN, .inr (0, [.int N_width, .int N_height, .long N_everywhere, .long N_firstColumn, .long N_lastColumn, .ref aN_grounds, .ref aN_airs, .ref aN_tolds, .ref aN_fees, .ref aN_lets, .int N_makers, .ref aN_kinds, .ref aN_cells, .ref aN_selves, .ref aN_cries, .int N_leaves, .ref aN_parts, .int N_pasts, .ref aN_past])), (aN_grounds, .inl (gJ G, 3, .inr (.inl N_grounds))), (aN_airs, .inl (gJ G, 6, .inr (.inl N_airs))), (aN_tolds, .inl (gJ G, 3, .inr (.inl N_tolds))), (aN_fees, .inl (gI G, 6, .inl N_fees)), (aN_lets, .inl (gI G, 6, .inl N_lets)), (aN_kinds, .inl (gI G, 6, .inl N_kinds)), (aN_cells, .inl (gI G, 6, .inl N_cells)), (aN_selves, .inl (gI G, 6, .inl N_selves)), (aN_cries, .inl (gI G, 6, .inl N_cries)), (aN_parts, .inl (gI G, 40, .inl N_parts)), (aR, .inr (1, [.ref aR_text, .int R_length, .ref aN, .int R_place, .int R_end, .int R_token, .ref aR_numbers])), (aR_text, .inl (gB G, 150, .inl R_text)), (aR_numbers, .inl (gI G, 5, .inl R_numbers))]) C hE hW fp_Rd_19 11 rfl rfl rfl (Nat.le_of_ble_eq_true rfl) rfl d_Rd_readInto_2 (fun H locs hW => ?_)
  refine lv_aload_n C.1.1 C.1.2.1 d_Rd_readInto_5 rfl (lv_at hl 0 rfl) ?_
  refine lv_iconst (v := 0) C.1.1 C.1.2.1 d_Rd_readInto_6 (by decide) ?_
  refine x_put (ws' := [(aN, .inr (0, [.int N_width, .int N_height, .long N_everywhere, .long N_firstColumn, .long N_lastColumn, .ref aN_grounds, .ref aN_airs, .ref aN_tolds, .ref aN_fees, .ref aN_lets, .int N_makers, .ref aN_kinds, .ref aN_cells, .ref aN_selves, .ref aN_cries, .int N_leaves, .ref aN_parts, .int N_pasts, .ref aN_past])), (aN_grounds, .inl (gJ G, 3, .inr (.inl N_grounds))), (aN_airs, .inl (gJ G, 6, .inr (.inl N_airs))), (aN_tolds, .inl (gJ G, 3, .inr (.inl N_tolds))), (aN_fees, .inl (gI G, 6, .inl N_fees)), (aN_lets, .inl (gI G, 6, .inl N_lets)), (aN_kinds, .inl (gI G, 6, .inl N_kinds)), (aN_cells, .inl (gI G, 6, .inl N_cells)), (aN_selves, .inl (gI G, 6, .inl N_selves)), (aN_cries, .inl (gI G, 6, .inl N_cries)), (aN_parts, .inl (gI G, 40, .inl N_parts)), (aR, .inr (1, [.ref aR_text, .int R_length, .ref aN, .int R_place, .int 0, .int R_token, .ref aR_numbers])), (aR_text, .inl (gB G, 150, .inl R_text)), (aR_numbers, .inl (gI G, 5, .inl R_numbers))]) C hE hW fp_Rd_27 11 rfl rfl rfl (Nat.le_of_ble_eq_true rfl) rfl d_Rd_readInto_7 (fun H locs hW => ?_)
  refine lv_iconst (v := 0) C.1.1 C.1.2.1 d_Rd_readInto_10 (by decide) ?_
  refine lv_istore_n (lv' := [(2, .int 0), (0, .ref aR), (1, .ref aN)]) C.1.1 C.1.2.1 d_Rd_readInto_11 rfl hl (by decide) rfl (fun ls hl => ?_)
  refine lv_aload_n C.1.1 C.1.2.1 d_Rd_readInto_12 rfl (lv_at hl 1 rfl) ?_
  obtain ⟨⟨x1, x2, x3⟩, hc4, h⟩ := bd_at h
  refine x_callV (ws' := [(aN, .inr (0, [.int N_width, .int N_height, .long N_everywhere, .long N_firstColumn, .long N_lastColumn, .ref aN_grounds, .ref aN_airs, .ref aN_tolds, .ref aN_fees, .ref aN_lets, .int N_makers, .ref aN_kinds, .ref aN_cells, .ref aN_selves, .ref aN_cries, .int N_leaves, .ref aN_parts, .int N_pasts, .ref aN_past])), (aN_grounds, .inl (gJ G, 3, .inr (.inl N_grounds))), (aN_airs, .inl (gJ G, 6, .inr (.inl N_airs))), (aN_tolds, .inl (gJ G, 3, .inr (.inl N_tolds))), (aN_fees, .inl (gI G, 6, .inl N_fees)), (aN_lets, .inl (gI G, 6, .inl N_lets)), (aN_kinds, .inl (gI G, 6, .inl N_kinds)), (aN_cells, .inl (gI G, 6, .inl N_cells)), (aN_selves, .inl (gI G, 6, .inl N_selves)), (aN_cries, .inl (gI G, 6, .inl N_cries)), (aN_parts, .inl (gI G, 40, .inl N_parts)), (aR, .inr (1, [.ref aR_text, .int R_length, .ref aN, .int x1, .int x2, .int x3, .ref aR_numbers])), (aR_text, .inl (gB G, 150, .inl R_text)), (aR_numbers, .inl (gI G, 5, .inl R_numbers))]) (stk := []) (rest := []) (As := []) (q0 := 11) C hE hW (c_Rd_nextToken l G aR aR_text aR_numbers R_length aN R_place 0 R_token R_text hc4) cv_Rd_nextToken tw431 hl rfl rfl (Nat.le_of_ble_eq_true rfl) rfl rfl rfl ⟨Nat.le_of_ble_eq_true rfl, Nat.le_of_ble_eq_true rfl⟩ ⟨Nat.zero_le _, Nat.zero_le _⟩ [11, 12] [0, 1, 2, 3, 4, 5, 6, 7, 8, 9, 10, 13] [0, 1, 2, 3, 4, 5, 6, 7, 8, 9, 10, 12, 13, 11] rfl rfl rfl (by decide) rfl rfl rfl rfl d_Rd_readInto_13 (fun H locs hW => ?_)
  refine lv_iconst (v := 0) C.1.1 C.1.2.1 d_Rd_readInto_16 (by decide) ?_
  refine lv_istore_n (lv' := [(3, .int 0), (2, .int 0), (0, .ref aR), (1, .ref aN)]) C.1.1 C.1.2.1 d_Rd_readInto_17 rfl hl (by decide) rfl (fun ls hl => ?_)
  refine jn_at (P := fun ((x5, x6, x7, x8, x9, x10, x11, x12, x13, x14, x15, x16, x17, x18, x19, x20, x21, x22, x23, x24, x25, x26) : Int32 × Int32 × Int64 × Int64 × Int64 × (Nat → Int64) × (Nat → Int64) × (Nat → Int64) × (Nat → Int32) × (Nat → Int32) × Int32 × (Nat → Int32) × (Nat → Int32) × (Nat → Int32) × (Nat → Int32) × Int32 × (Nat → Int32) × Int32 × Int32 × Int32 × Int32 × (Nat → Int32)) => ∀ (H : Heap) (locs : List Loc) (ls : Array Slot), Wd G A s.heap H locs [(aN, .inr (0, [.int x5, .int x6, .long x7, .long x8, .long x9, .ref aN_grounds, .ref aN_airs, .ref aN_tolds, .ref aN_fees, .ref aN_lets, .int x15, .ref aN_kinds, .ref aN_cells, .ref aN_selves, .ref aN_cries, .int x20, .ref aN_parts, .int x22, .ref aN_past])), (aN_grounds, .inl (gJ G, 3, .inr (.inl x10))), (aN_airs, .inl (gJ G, 6, .inr (.inl x11))), (aN_tolds, .inl (gJ G, 3, .inr (.inl x12))), (aN_fees, .inl (gI G, 6, .inl x13)), (aN_lets, .inl (gI G, 6, .inl x14)), (aN_kinds, .inl (gI G, 6, .inl x16)), (aN_cells, .inl (gI G, 6, .inl x17)), (aN_selves, .inl (gI G, 6, .inl x18)), (aN_cries, .inl (gI G, 6, .inl x19)), (aN_parts, .inl (gI G, 40, .inl x21)), (aR, .inr (1, [.ref aR_text, .int R_length, .ref aN, .int x23, .int x24, .int x25, .ref aR_numbers])), (aR_text, .inl (gB G, 150, .inl R_text)), (aR_numbers, .inl (gI G, 5, .inl x26))] → lv_has ls 4 [(0, .ref aR)] → W p l e (RM 7 152) s m args below meth c H locs 0 0 Q (F0 m 52 ls [])) h ?_ ?_
  · skip
    intro x h
    obtain ⟨x5, x6, x7, x8, x9, x10, x11, x12, x13, x14, x15, x16, x17, x18, x19, x20, x21, x22, x23, x24, x25, x26⟩ := x
    intro H locs ls hW hl
    refine lv_bipush (v := (-10)) C.1.1 C.1.2.1 d_Rd_readInto_52 (by decide) ?_
    refine lv_aload_n C.1.1 C.1.2.1 d_Rd_readInto_54 rfl (lv_at hl 0 rfl) ?_
    refine x_get C hE hW fl_Rd_40 11 rfl rfl d_Rd_readInto_55 ?_
    refine lv_isub C.1.1 C.1.2.1 d_Rd_readInto_58 ?_
    obtain rfl := Option.some.inj h
    exact x_iret C hW rfl rfl hQ d_Rd_readInto_59
  · intro J52 hJ52 h
    refine lp_at (P := fun ((x27, x28, x29, x30, x31, x32, x33, x34, x35, x36, x37, x38, x39, x40, x41, x42, x43, x44, x45, x46, x47, x48, x49, x50) : Int32 × Int32 × Int32 × Int32 × Int64 × Int64 × Int64 × (Nat → Int64) × (Nat → Int64) × (Nat → Int64) × (Nat → Int32) × (Nat → Int32) × Int32 × (Nat → Int32) × (Nat → Int32) × (Nat → Int32) × (Nat → Int32) × Int32 × (Nat → Int32) × Int32 × Int32 × Int32 × Int32 × (Nat → Int32)) => ∀ (H : Heap) (locs : List Loc) (ls : Array Slot), Wd G A s.heap H locs [(aN, .inr (0, [.int x29, .int x30, .long x31, .long x32, .long x33, .ref aN_grounds, .ref aN_airs, .ref aN_tolds, .ref aN_fees, .ref aN_lets, .int x39, .ref aN_kinds, .ref aN_cells, .ref aN_selves, .ref aN_cries, .int x44, .ref aN_parts, .int x46, .ref aN_past])), (aN_grounds, .inl (gJ G, 3, .inr (.inl x34))), (aN_airs, .inl (gJ G, 6, .inr (.inl x35))), (aN_tolds, .inl (gJ G, 3, .inr (.inl x36))), (aN_fees, .inl (gI G, 6, .inl x37)), (aN_lets, .inl (gI G, 6, .inl x38)), (aN_kinds, .inl (gI G, 6, .inl x40)), (aN_cells, .inl (gI G, 6, .inl x41)), (aN_selves, .inl (gI G, 6, .inl x42)), (aN_cries, .inl (gI G, 6, .inl x43)), (aN_parts, .inl (gI G, 40, .inl x45)), (aR, .inr (1, [.ref aR_text, .int R_length, .ref aN, .int x47, .int x48, .int x49, .ref aR_numbers])), (aR_text, .inl (gB G, 150, .inl R_text)), (aR_numbers, .inl (gI G, 5, .inl x50))] → lv_has ls 4 [(0, .ref aR), (2, .int x27), (3, .int x28)] → W p l e (RM 7 152) s m args below meth c H locs 0 0 Q (F0 m 18 ls [])) ?_ FU _ h _ _ _ hW (lv_sub hl [2, 1, 0] rfl)
    clear h hl hW
    intro rec18 ih18
    intro x h
    obtain ⟨x27, x28, x29, x30, x31, x32, x33, x34, x35, x36, x37, x38, x39, x40, x41, x42, x43, x44, x45, x46, x47, x48, x49, x50⟩ := x
    unfold f_Rd_readInto_L18 at h
    intro H locs ls hW hl
    refine lv_iload_n C.1.1 C.1.2.1 d_Rd_readInto_18 rfl (lv_at hl 2 rfl) ?_
    refine lv_sipush (v := 150) C.1.1 C.1.2.1 d_Rd_readInto_19 (by decide) ?_
    refine lv_icmp_ge (tgt := 73) C.1.1 C.1.2.1 d_Rd_readInto_22 (by decide) (fun cc => ?_) (fun cc => ?_)
    · replace h := it_t cc h
      refine lv_iload_n C.1.1 C.1.2.1 d_Rd_readInto_73 rfl (lv_at hl 1 rfl) ?_
      obtain rfl := Option.some.inj h
      exact x_iret C hW rfl rfl hQ d_Rd_readInto_74
    · replace h := it_f cc h
      refine lv_aload_n C.1.1 C.1.2.1 d_Rd_readInto_25 rfl (lv_at hl 0 rfl) ?_
      refine x_get C hE hW fl_Rd_33 11 rfl rfl d_Rd_readInto_26 ?_
      refine jn_at (P := fun (_ : Unit) => ∀ (H : Heap) (locs : List Loc) (ls : Array Slot), Wd G A s.heap H locs [(aN, .inr (0, [.int x29, .int x30, .long x31, .long x32, .long x33, .ref aN_grounds, .ref aN_airs, .ref aN_tolds, .ref aN_fees, .ref aN_lets, .int x39, .ref aN_kinds, .ref aN_cells, .ref aN_selves, .ref aN_cries, .int x44, .ref aN_parts, .int x46, .ref aN_past])), (aN_grounds, .inl (gJ G, 3, .inr (.inl x34))), (aN_airs, .inl (gJ G, 6, .inr (.inl x35))), (aN_tolds, .inl (gJ G, 3, .inr (.inl x36))), (aN_fees, .inl (gI G, 6, .inl x37)), (aN_lets, .inl (gI G, 6, .inl x38)), (aN_kinds, .inl (gI G, 6, .inl x40)), (aN_cells, .inl (gI G, 6, .inl x41)), (aN_selves, .inl (gI G, 6, .inl x42)), (aN_cries, .inl (gI G, 6, .inl x43)), (aN_parts, .inl (gI G, 40, .inl x45)), (aR, .inr (1, [.ref aR_text, .int R_length, .ref aN, .int x47, .int x48, .int x49, .ref aR_numbers])), (aR_text, .inl (gB G, 150, .inl R_text)), (aR_numbers, .inl (gI G, 5, .inl x50))] → lv_has ls 4 [(0, .ref aR), (2, .int x27), (3, .int x28)] → W p l e (RM 7 152) s m args below meth c H locs 0 0 Q (F0 m 36 ls [])) h ?_ ?_
      · skip
        intro _ h
        intro H locs ls hW hl
        refine lv_aload_n C.1.1 C.1.2.1 d_Rd_readInto_36 rfl (lv_at hl 0 rfl) ?_
        refine lv_iload_n C.1.1 C.1.2.1 d_Rd_readInto_37 rfl (lv_at hl 1 rfl) ?_
        refine jn_at (P := fun (x51 : Int32) => ∀ (H : Heap) (locs : List Loc) (ls : Array Slot), Wd G A s.heap H locs [(aN, .inr (0, [.int x29, .int x30, .long x31, .long x32, .long x33, .ref aN_grounds, .ref aN_airs, .ref aN_tolds, .ref aN_fees, .ref aN_lets, .int x39, .ref aN_kinds, .ref aN_cells, .ref aN_selves, .ref aN_cries, .int x44, .ref aN_parts, .int x46, .ref aN_past])), (aN_grounds, .inl (gJ G, 3, .inr (.inl x34))), (aN_airs, .inl (gJ G, 6, .inr (.inl x35))), (aN_tolds, .inl (gJ G, 3, .inr (.inl x36))), (aN_fees, .inl (gI G, 6, .inl x37)), (aN_lets, .inl (gI G, 6, .inl x38)), (aN_kinds, .inl (gI G, 6, .inl x40)), (aN_cells, .inl (gI G, 6, .inl x41)), (aN_selves, .inl (gI G, 6, .inl x42)), (aN_cries, .inl (gI G, 6, .inl x43)), (aN_parts, .inl (gI G, 40, .inl x45)), (aR, .inr (1, [.ref aR_text, .int R_length, .ref aN, .int x47, .int x48, .int x49, .ref aR_numbers])), (aR_text, .inl (gB G, 150, .inl R_text)), (aR_numbers, .inl (gI G, 5, .inl x50))] → lv_has ls 4 [(0, .ref aR), (2, .int x27), (3, .int x28)] → W p l e (RM 7 152) s m args below meth c H locs 0 0 Q (F0 m 46 ls [.int x51, .ref aR])) h ?_ ?_
        · skip
          intro x51 h
          intro H locs ls hW hl
          obtain ⟨⟨x52, x53, x54, x55, x56, x57, x58, x59, x60, x61, x62, x63, x64, x65, x66, x67, x68, x69, x70, x71, x72, x73, x74⟩, hc75, h⟩ := bd_at h
          refine x_callV (ws' := [(aN, .inr (0, [.int x53, .int x54, .long x55, .long x56, .long x57, .ref aN_grounds, .ref aN_airs, .ref aN_tolds, .ref aN_fees, .ref aN_lets, .int x63, .ref aN_kinds, .ref aN_cells, .ref aN_selves, .ref aN_cries, .int x68, .ref aN_parts, .int x70, .ref aN_past])), (aN_grounds, .inl (gJ G, 3, .inr (.inl x58))), (aN_airs, .inl (gJ G, 6, .inr (.inl x59))), (aN_tolds, .inl (gJ G, 3, .inr (.inl x60))), (aN_fees, .inl (gI G, 6, .inl x61)), (aN_lets, .inl (gI G, 6, .inl x62)), (aN_kinds, .inl (gI G, 6, .inl x64)), (aN_cells, .inl (gI G, 6, .inl x65)), (aN_selves, .inl (gI G, 6, .inl x66)), (aN_cries, .inl (gI G, 6, .inl x67)), (aN_parts, .inl (gI G, 40, .inl x69)), (aR, .inr (1, [.ref aR_text, .int R_length, .ref aN, .int x71, .int x72, .int x73, .ref aR_numbers])), (aR_text, .inl (gB G, 150, .inl R_text)), (aR_numbers, .inl (gI G, 5, .inl x74))]) (stk := [.int x52]) (rest := []) (As := [.int x51]) (q0 := 11) C hE hW (c_Rd_readItem l G aN aN_grounds aN_airs aN_tolds aN_fees aN_lets aN_kinds aN_cells aN_selves aN_cries aN_parts aN_past aR aR_text aR_numbers x29 x30 x31 x32 x33 x39 x44 x46 R_length x47 x48 x49 x34 x35 x36 x37 x38 x40 x41 x42 x43 x45 R_text x50 x51 hc75) cv_Rd_readItem tw445 hl rfl rfl (Nat.le_of_ble_eq_true rfl) rfl rfl rfl ⟨Nat.le_of_ble_eq_true rfl, Nat.le_of_ble_eq_true rfl⟩ ⟨Nat.zero_le _, Nat.zero_le _⟩ [0, 1, 2, 3, 4, 5, 6, 7, 8, 9, 10, 11, 12, 13] [] [0, 1, 2, 3, 4, 5, 6, 7, 8, 9, 10, 11, 12, 13] rfl rfl rfl (by decide) rfl rfl rfl rfl d_Rd_readInto_46 (fun H locs hW => ?_)
          refine lv_if_ne (tgt := 60) C.1.1 C.1.2.1 d_Rd_readInto_49 (by decide) (fun cc => ?_) (fun cc => ?_)
          · replace h := it_f cc h
            obtain ⟨x76, ex76⟩ : ∃ y : Int32, y = x27 + 1 := ⟨_, rfl⟩
            replace h := lt_at ex76 h
            refine lv_iinc (v := x76) (lv' := [(2, .int x76), (0, .ref aR), (3, .int x28)]) C.1.1 C.1.2.1 d_Rd_readInto_60 hl (k := 1) rfl (by rw [ex76]; rfl) (by decide) rfl (fun ls hl => ?_)
            refine lv_aload_n C.1.1 C.1.2.1 d_Rd_readInto_63 rfl (lv_at hl 1 rfl) ?_
            obtain ⟨⟨x77, x78, x79⟩, hc80, h⟩ := bd_at h
            refine x_callV (ws' := [(aN, .inr (0, [.int x53, .int x54, .long x55, .long x56, .long x57, .ref aN_grounds, .ref aN_airs, .ref aN_tolds, .ref aN_fees, .ref aN_lets, .int x63, .ref aN_kinds, .ref aN_cells, .ref aN_selves, .ref aN_cries, .int x68, .ref aN_parts, .int x70, .ref aN_past])), (aN_grounds, .inl (gJ G, 3, .inr (.inl x58))), (aN_airs, .inl (gJ G, 6, .inr (.inl x59))), (aN_tolds, .inl (gJ G, 3, .inr (.inl x60))), (aN_fees, .inl (gI G, 6, .inl x61)), (aN_lets, .inl (gI G, 6, .inl x62)), (aN_kinds, .inl (gI G, 6, .inl x64)), (aN_cells, .inl (gI G, 6, .inl x65)), (aN_selves, .inl (gI G, 6, .inl x66)), (aN_cries, .inl (gI G, 6, .inl x67)), (aN_parts, .inl (gI G, 40, .inl x69)), (aR, .inr (1, [.ref aR_text, .int R_length, .ref aN, .int x77, .int x78, .int x79, .ref aR_numbers])), (aR_text, .inl (gB G, 150, .inl R_text)), (aR_numbers, .inl (gI G, 5, .inl x74))]) (stk := []) (rest := []) (As := []) (q0 := 11) C hE hW (c_Rd_nextToken l G aR aR_text aR_numbers R_length aN x71 x72 x73 R_text hc80) cv_Rd_nextToken tw431 hl rfl rfl (Nat.le_of_ble_eq_true rfl) rfl rfl rfl ⟨Nat.le_of_ble_eq_true rfl, Nat.le_of_ble_eq_true rfl⟩ ⟨Nat.zero_le _, Nat.zero_le _⟩ [11, 12] [0, 1, 2, 3, 4, 5, 6, 7, 8, 9, 10, 13] [0, 1, 2, 3, 4, 5, 6, 7, 8, 9, 10, 12, 13, 11] rfl rfl rfl (by decide) rfl rfl rfl rfl d_Rd_readInto_64 (fun H locs hW => ?_)
            obtain ⟨x81, ex81⟩ : ∃ y : Int32, y = x28 + 1 := ⟨_, rfl⟩
            replace h := lt_at ex81 h
            refine lv_iinc (v := x81) (lv' := [(3, .int x81), (2, .int x76), (0, .ref aR)]) C.1.1 C.1.2.1 d_Rd_readInto_67 hl (k := 2) rfl (by rw [ex81]; rfl) (by decide) rfl (fun ls hl => ?_)
            refine lv_goto (tgt := 18) C.1.1 C.1.2.1 d_Rd_readInto_70 (by decide) ?_
            exact ih18 _ h _ _ _ hW (lv_sub hl [2, 1, 0] rfl)
          · replace h := it_t cc h
            exact hJ52 _ h _ _ _ hW (lv_sub hl [0] rfl)
        · intro J46 hJ46 h
          refine lv_if_ne (tgt := 45) C.1.1 C.1.2.1 d_Rd_readInto_38 (by decide) (fun cc => ?_) (fun cc => ?_)
          · replace h := it_f cc h
            refine lv_iconst (v := 0) C.1.1 C.1.2.1 d_Rd_readInto_45 (by decide) ?_
            exact hJ46 _ h _ _ _ hW (lv_sub hl [0, 1, 2] rfl)
          · replace h := it_t cc h
            refine lv_iconst (v := 1) C.1.1 C.1.2.1 d_Rd_readInto_41 (by decide) ?_
            refine lv_goto (tgt := 46) C.1.1 C.1.2.1 d_Rd_readInto_42 (by decide) ?_
            exact hJ46 _ h _ _ _ hW (lv_sub hl [0, 1, 2] rfl)
      · intro J36 hJ36 h
        refine lv_if_ne (tgt := 36) C.1.1 C.1.2.1 d_Rd_readInto_29 (by decide) (fun cc => ?_) (fun cc => ?_)
        · replace h := it_f cc h
          exact hJ36 _ h _ _ _ hW (lv_sub hl [0, 1, 2] rfl)
        · replace h := it_t cc h
          refine lv_iload_n C.1.1 C.1.2.1 d_Rd_readInto_32 rfl (lv_at hl 1 rfl) ?_
          refine lv_if_ne (tgt := 73) C.1.1 C.1.2.1 d_Rd_readInto_33 (by decide) (fun cc => ?_) (fun cc => ?_)
          · replace h := it_f cc h
            refine lv_iload_n C.1.1 C.1.2.1 d_Rd_readInto_73 rfl (lv_at hl 1 rfl) ?_
            obtain rfl := Option.some.inj h
            exact x_iret C hW rfl rfl hQ d_Rd_readInto_74
          · replace h := it_t cc h
            exact hJ36 _ h _ _ _ hW (lv_sub hl [0, 1, 2] rfl)

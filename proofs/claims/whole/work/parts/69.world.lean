/-! the whole world of the law, by roles; rows for the law's own frame -/
abbrev SC : Type := Nat × Int32 × Int32 × Int32 × Int32 × Int32 × (Nat → Int64) × (Nat → Int64) × (Nat → Int64) × (Nat → Int64) × Int64 × Int64
abbrev RC : Type := Nat × Int32 × Int32 × Int32 × (Nat → Int32)
abbrev MC : Type := Int32 × Int32 × Int32 × (Nat → Int32) × Int32 × Int32 × Int32 × Int32 × (Nat → Int32) × (Nat → Int32) × (Nat → Int32) × (Nat → Int32) × Int32 × Int32 × Int32 × Int32 × Int32 × (Nat → Int32) × Int32 × (Nat → Int32) × (Nat → Int32)
def wor (G : Gl) (aA aM : Nat) (q n d i j m : Nat → Nat) (x y z w : LC) (S : SC) (R : RC) (M : MC) (t1 t2 row kept ik rf hb : Nat → Int32) (l1 l2 bad no full : Int32) : va_W := [(aA, .inr (3, [.ref (n 11), .ref (d 11), .ref (q 0), .ref (q 1), .ref (q 2), .ref (q 3), .ref (q 4), .ref (q 5)])), ((q 0), .inl (gO G, 2, .inr (.inr (.inr (.inr (imF (i 11) (j 11))))))), ((q 1), .inl (gZ G, 2, .inl kept)), ((q 4), .inl (gI G, 3, .inl rf)), ((q 5), .inl (gI G, 6, .inl hb)), ((n 11), .inr (0, [.int (x.1), .int (x.2.1), .long (x.2.2.1), .long (x.2.2.2.1), .long (x.2.2.2.2.1), .ref (n 0), .ref (n 1), .ref (n 2), .ref (n 3), .ref (n 4), .int (x.2.2.2.2.2.2.2.2.2.2.1), .ref (n 5), .ref (n 6), .ref (n 7), .ref (n 8), .int (x.2.2.2.2.2.2.2.2.2.2.2.2.2.2.2.1), .ref (n 9), .int (x.2.2.2.2.2.2.2.2.2.2.2.2.2.2.2.2.2.1), .ref (n 10)])), ((n 0), .inl (gJ G, 3, .inr (.inl (x.2.2.2.2.2.1)))), ((n 1), .inl (gJ G, 6, .inr (.inl (x.2.2.2.2.2.2.1)))), ((n 2), .inl (gJ G, 3, .inr (.inl (x.2.2.2.2.2.2.2.1)))), ((n 3), .inl (gI G, 6, .inl (x.2.2.2.2.2.2.2.2.1))), ((n 4), .inl (gI G, 6, .inl (x.2.2.2.2.2.2.2.2.2.1))), ((n 5), .inl (gI G, 6, .inl (x.2.2.2.2.2.2.2.2.2.2.2.1))), ((n 6), .inl (gI G, 6, .inl (x.2.2.2.2.2.2.2.2.2.2.2.2.1))), ((n 7), .inl (gI G, 6, .inl (x.2.2.2.2.2.2.2.2.2.2.2.2.2.1))), ((n 8), .inl (gI G, 6, .inl (x.2.2.2.2.2.2.2.2.2.2.2.2.2.2.1))), ((n 9), .inl (gI G, 40, .inl (x.2.2.2.2.2.2.2.2.2.2.2.2.2.2.2.2.1))), ((n 10), .inl (gI G, 328, .inl (x.2.2.2.2.2.2.2.2.2.2.2.2.2.2.2.2.2.2))), ((d 11), .inr (0, [.int (y.1), .int (y.2.1), .long (y.2.2.1), .long (y.2.2.2.1), .long (y.2.2.2.2.1), .ref (d 0), .ref (d 1), .ref (d 2), .ref (d 3), .ref (d 4), .int (y.2.2.2.2.2.2.2.2.2.2.1), .ref (d 5), .ref (d 6), .ref (d 7), .ref (d 8), .int (y.2.2.2.2.2.2.2.2.2.2.2.2.2.2.2.1), .ref (d 9), .int (y.2.2.2.2.2.2.2.2.2.2.2.2.2.2.2.2.2.1), .ref (d 10)])), ((d 0), .inl (gJ G, 3, .inr (.inl (y.2.2.2.2.2.1)))), ((d 1), .inl (gJ G, 6, .inr (.inl (y.2.2.2.2.2.2.1)))), ((d 2), .inl (gJ G, 3, .inr (.inl (y.2.2.2.2.2.2.2.1)))), ((d 3), .inl (gI G, 6, .inl (y.2.2.2.2.2.2.2.2.1))), ((d 4), .inl (gI G, 6, .inl (y.2.2.2.2.2.2.2.2.2.1))), ((d 5), .inl (gI G, 6, .inl (y.2.2.2.2.2.2.2.2.2.2.2.1))), ((d 6), .inl (gI G, 6, .inl (y.2.2.2.2.2.2.2.2.2.2.2.2.1))), ((d 7), .inl (gI G, 6, .inl (y.2.2.2.2.2.2.2.2.2.2.2.2.2.1))), ((d 8), .inl (gI G, 6, .inl (y.2.2.2.2.2.2.2.2.2.2.2.2.2.2.1))), ((d 9), .inl (gI G, 40, .inl (y.2.2.2.2.2.2.2.2.2.2.2.2.2.2.2.2.1))), ((d 10), .inl (gI G, 328, .inl (y.2.2.2.2.2.2.2.2.2.2.2.2.2.2.2.2.2.2))), ((i 11), .inr (0, [.int (z.1), .int (z.2.1), .long (z.2.2.1), .long (z.2.2.2.1), .long (z.2.2.2.2.1), .ref (i 0), .ref (i 1), .ref (i 2), .ref (i 3), .ref (i 4), .int (z.2.2.2.2.2.2.2.2.2.2.1), .ref (i 5), .ref (i 6), .ref (i 7), .ref (i 8), .int (z.2.2.2.2.2.2.2.2.2.2.2.2.2.2.2.1), .ref (i 9), .int (z.2.2.2.2.2.2.2.2.2.2.2.2.2.2.2.2.2.1), .ref (i 10)])), ((i 0), .inl (gJ G, 3, .inr (.inl (z.2.2.2.2.2.1)))), ((i 1), .inl (gJ G, 6, .inr (.inl (z.2.2.2.2.2.2.1)))), ((i 2), .inl (gJ G, 3, .inr (.inl (z.2.2.2.2.2.2.2.1)))), ((i 3), .inl (gI G, 6, .inl (z.2.2.2.2.2.2.2.2.1))), ((i 4), .inl (gI G, 6, .inl (z.2.2.2.2.2.2.2.2.2.1))), ((i 5), .inl (gI G, 6, .inl (z.2.2.2.2.2.2.2.2.2.2.2.1))), ((i 6), .inl (gI G, 6, .inl (z.2.2.2.2.2.2.2.2.2.2.2.2.1))), ((i 7), .inl (gI G, 6, .inl (z.2.2.2.2.2.2.2.2.2.2.2.2.2.1))), ((i 8), .inl (gI G, 6, .inl (z.2.2.2.2.2.2.2.2.2.2.2.2.2.2.1))), ((i 9), .inl (gI G, 40, .inl (z.2.2.2.2.2.2.2.2.2.2.2.2.2.2.2.2.1))), ((i 10), .inl (gI G, 328, .inl (z.2.2.2.2.2.2.2.2.2.2.2.2.2.2.2.2.2.2))), ((j 11), .inr (0, [.int (w.1), .int (w.2.1), .long (w.2.2.1), .long (w.2.2.2.1), .long (w.2.2.2.2.1), .ref (j 0), .ref (j 1), .ref (j 2), .ref (j 3), .ref (j 4), .int (w.2.2.2.2.2.2.2.2.2.2.1), .ref (j 5), .ref (j 6), .ref (j 7), .ref (j 8), .int (w.2.2.2.2.2.2.2.2.2.2.2.2.2.2.2.1), .ref (j 9), .int (w.2.2.2.2.2.2.2.2.2.2.2.2.2.2.2.2.2.1), .ref (j 10)])), ((j 0), .inl (gJ G, 3, .inr (.inl (w.2.2.2.2.2.1)))), ((j 1), .inl (gJ G, 6, .inr (.inl (w.2.2.2.2.2.2.1)))), ((j 2), .inl (gJ G, 3, .inr (.inl (w.2.2.2.2.2.2.2.1)))), ((j 3), .inl (gI G, 6, .inl (w.2.2.2.2.2.2.2.2.1))), ((j 4), .inl (gI G, 6, .inl (w.2.2.2.2.2.2.2.2.2.1))), ((j 5), .inl (gI G, 6, .inl (w.2.2.2.2.2.2.2.2.2.2.2.1))), ((j 6), .inl (gI G, 6, .inl (w.2.2.2.2.2.2.2.2.2.2.2.2.1))), ((j 7), .inl (gI G, 6, .inl (w.2.2.2.2.2.2.2.2.2.2.2.2.2.1))), ((j 8), .inl (gI G, 6, .inl (w.2.2.2.2.2.2.2.2.2.2.2.2.2.2.1))), ((j 9), .inl (gI G, 40, .inl (w.2.2.2.2.2.2.2.2.2.2.2.2.2.2.2.2.1))), ((j 10), .inl (gI G, 328, .inl (w.2.2.2.2.2.2.2.2.2.2.2.2.2.2.2.2.2.2))), ((q 2), .inr (2, [.ref (S.1), .int (S.2.1), .int (S.2.2.1), .int (S.2.2.2.1), .int (S.2.2.2.2.1), .int (S.2.2.2.2.2.1), .ref (q 6), .ref (q 7), .ref (q 8), .ref (q 9), .long (S.2.2.2.2.2.2.2.2.2.2.1), .long (S.2.2.2.2.2.2.2.2.2.2.2)])), ((q 6), .inl (gJ G, 21, .inr (.inl (S.2.2.2.2.2.2.1)))), ((q 7), .inl (gJ G, 21, .inr (.inl (S.2.2.2.2.2.2.2.1)))), ((q 8), .inl (gJ G, 21, .inr (.inl (S.2.2.2.2.2.2.2.2.1)))), ((q 9), .inl (gJ G, 21, .inr (.inl (S.2.2.2.2.2.2.2.2.2.1)))), ((q 3), .inr (1, [.ref (q 10), .int l1, .ref (R.1), .int (R.2.1), .int (R.2.2.1), .int (R.2.2.2.1), .ref (q 11)])), ((q 10), .inl (gB G, 150, .inl t1)), ((q 11), .inl (gI G, 5, .inl (R.2.2.2.2))), (aM, .inr (4, [.ref (m 0), .ref (m 1), .int l2, .ref (m 2), .int bad, .int no, .int full, .int (M.1), .int (M.2.1), .int (M.2.2.1), .ref (m 3), .int (M.2.2.2.2.1), .int (M.2.2.2.2.2.1), .int (M.2.2.2.2.2.2.1), .int (M.2.2.2.2.2.2.2.1), .ref (m 4), .ref (m 5), .ref (m 6), .ref (m 7), .int 0, .int 0, .long 0, .int 0, .int (M.2.2.2.2.2.2.2.2.2.2.2.2.1), .int (M.2.2.2.2.2.2.2.2.2.2.2.2.2.1), .int (M.2.2.2.2.2.2.2.2.2.2.2.2.2.2.1), .int (M.2.2.2.2.2.2.2.2.2.2.2.2.2.2.2.1), .int (M.2.2.2.2.2.2.2.2.2.2.2.2.2.2.2.2.1), .ref (m 8), .int (M.2.2.2.2.2.2.2.2.2.2.2.2.2.2.2.2.2.2.1), .ref (m 9), .ref (m 10)])), ((m 0), .inl (gI G, 1551, .inl row)), ((m 1), .inl (gI G, 150, .inl t2)), ((m 2), .inl (gZ G, 2, .inl ik)), ((m 3), .inl (gI G, 450, .inl (M.2.2.2.1))), ((m 4), .inl (gZ G, 756, .inl (M.2.2.2.2.2.2.2.2.1))), ((m 5), .inl (gI G, 36, .inl (M.2.2.2.2.2.2.2.2.2.1))), ((m 6), .inl (gI G, 36, .inl (M.2.2.2.2.2.2.2.2.2.2.1))), ((m 7), .inl (gI G, 36, .inl (M.2.2.2.2.2.2.2.2.2.2.2.1))), ((m 8), .inl (gI G, 36, .inl (M.2.2.2.2.2.2.2.2.2.2.2.2.2.2.2.2.2.1))), ((m 9), .inl (gI G, 6, .inl (M.2.2.2.2.2.2.2.2.2.2.2.2.2.2.2.2.2.2.2.1))), ((m 10), .inl (gI G, 6, .inl (M.2.2.2.2.2.2.2.2.2.2.2.2.2.2.2.2.2.2.2.2)))]
abbrev LA (s : State) : Nat → Prop := fun q => s.heap.size ≤ q
/-- between two of the script's calls -/
def Stt (G : Gl) (s : State) (aA aM : Nat) (H : Heap) (locs : List Loc) : Prop := ∃ (q n d i j m : Nat → Nat) (x y z w : LC) (S : SC) (R : RC) (M : MC) (t1 t2 row kept ik rf hb : Nat → Int32) (bad no full : Int32) (tn : Nat), IN row kept ik rf t1 t2 bad no full tn x z w ∧ Wd G (LA s) s.heap H locs (wor G aA aM q n d i j m x y z w S R M t1 t2 row kept ik rf hb (nI tn) (nI tn) bad no full)
/-- where the law stands -/
def LwE (p : Program) (s : State) (m : MethodId) (c : Code) (b L : Nat) (xs : Nat → Int32) (G : Gl) : Prop := CallFix p m c code 4 s #[Value.ref b] TT "LentAirLaw" ∧ KK G (LA s) s ∧ va_X b L xs s s.heap ∧ b < s.heap.size ∧ L ≤ 384
abbrev lvL (b aA aM : Nat) (i : Nat) : List (Nat × Value) := [(3, .int (nI i)), (2, .ref aM), (1, .ref aA), (0, .ref b)]
theorem tt_sub0 {ws : List Cond} (h : ∀ w ∈ ws, w ∈ TT) : GoodIn TT ws := fun w hw => ⟨h w hw, tt_good (h w hw)⟩
section LWR
variable {p : Program} {l : Launch} {e : Env} {R : Room} {s : State} {m : MethodId} {args : Array Value} {below : List Frame} {meth : Method} {c : Code} {H : Heap} {locs : List Loc} {cells slots : Nat} {Q : State → Prop}
  {own : String} {b : ByteArray} {nL : Nat} {G : Gl} {A : Nat → Prop} {H0 : Heap} {ws ws' : va_W} {pc : Nat} {ls : Array Slot} {rest : List Value} {a : Nat} {lv' : List (Nat × Value)}
theorem y_callV {idx n fr lo nL1 ci q0 : Nat} {y1 : MethodName} {b1 : ByteArray} {ret1 : Option FieldType} {As : List Value} {rv : Option Value} {wc wc' : va_W} {st0 stk : List Value} {K : String} {T : u_T} {N : Nat} {fs : List Value}
    (C : CallFix p m c b nL s args TT own) (hE : KK G A s) (hW : Wd G A s.heap H locs ws) (hM : Ct l y1 b1 nL1 ret1 fr lo G (.ref a :: As) wc rv wc') (hc : CV y1 b1 nL1 ret1 n) (hl : Cond.methodLink own idx y1 ∈ TT)
    (hls : lv_has ls nL lv') (hn : As.length = n) (hst : st0 = As.reverse ++ .ref a :: rest) (hrest : (rest.map fun v => v.category).sum ≤ 8)
    (hr : ws[q0]? = some (a, .inr (ci, fs))) (hci : classes[ci]? = some (K, T, N)) (hKc : y1.cls = K) (hR : fr + 1 ≤ R.frames ∧ 8 + (nL1 + 11) + lo ≤ R.locals) (hroom : cells ≤ R.cells ∧ slots ≤ R.slots)
    (isC isR perm : List Nat) (hC : isC.map (fun i => ws[i]?) = wc.map some) (hRs : isR.all (fun i => decide (i < ws.length)) = true) (hnr : va_nd isR = true) (hdis : ∀ i ∈ isR, i ∉ isC) (hnp : va_nd perm = true) (hp : perm.map (fun i => ((isR.filterMap fun i => ws[i]?) ++ wc')[i]?) = ws'.map some) (hnc : va_nd isC = true)
    (hstk : rv.toList ++ rest = stk) (hdg : decode b pc = .ok (.invokevirtual idx, 3))
    (kk : ∀ (H1 : Heap) (locs1 : List Loc), Wd G A s.heap H1 locs1 ws' → W p l e R s m args below meth c H1 locs1 cells slots Q (F0 m (pc + 3) ls stk)) : W p l e R s m args below meth c H locs cells slots Q (F0 m pc ls st0)   := by
  subst hstk
  subst hKc
  obtain ⟨k1, k2, k3, k4, k5, k6⟩ := hc
  have hP1 := hW.1.sub (ws' := wc) isC (by
    have := congrArg (List.filterMap id) hC
    simpa [List.filterMap_map, Function.comp_def] using this)
  have hD1 := (hW.2.1.sub isC hnc hC).weaken (B := fun _ => True) (fun _ _ _ _ => trivial)
  refine x_run (av := (Value.ref a :: As).toArray) (va_runV (As := As) (rest := rest) C (hM H.size) (cwV n C.2.2.2.2 (tt_sub0 (fun w hw => ?_)) rfl rfl rfl ⟨rfl, k5.1, k5.2, k6⟩ hR) ⟨fun a' U g mk q => ?_, va_recv hE.1 hW.1 hci hr, fun U hU hw => ?_⟩ rfl hn hls.1 hst (lv_room hrest) hdg ⟨hroom.1, hroom.2⟩) hW isC isR perm hC (wd_rest hRs) hnr hdis hnp hp kk
  · rcases List.mem_append.mp hw with h | h
    · simp only [List.mem_cons, List.not_mem_nil, or_false] at h
      rcases h with rfl | rfl | rfl | rfl
      · exact hl
      · exact k1
      · exact k2
      · exact k3
    · exact tt_code k4 w h
  · obtain ⟨z0, z1, z2, z3, z4⟩ := q
    exact ⟨z0, z1, z2, z3.blind g mk a', z4⟩
  · exact ⟨rfl, by rw [hU], by rw [hU]; exact hP1, hE.warm hw (by rw [hU]; exact hW.2.2.1) (va_free hW.2.1 hW.2.2.1 hW.2.2.2 isC hC), hD1⟩
theorem y_new {idx ci N : Nat} {fs : List Value} (C : CallFix p m c b nL s args TT own) (hE : KK G A s) (hW : Wd G A H0 H locs ws) (hf : NW own idx ci N fs) (hcells : cells + 1 ≤ R.cells) (hslots : slots + N ≤ R.slots) (hdg : decode b pc = .ok (.new idx, 3))
    (kk : ∀ (q : Nat) (H1 : Heap), Wd G A H0 H1 locs (ws ++ [(q, .inr (ci, fs))]) → W p l e R s m args below meth c H1 locs (cells + 1) (slots + N) Q (F0 m (pc + 3) ls (.ref q :: rest))) : W p l e R s m args below meth c H locs cells slots Q (F0 m pc ls rest) := by
  obtain ⟨K, T, ty0, hc, hin, k1, k2, k3, h1, h2⟩ := hf
  exact va_new C.1 C.2.1 C.2.2.2.2 hin ty0 h1 C.2.2.2.1 (C.2.2.2.2 _ k1) (C.2.2.2.2 _ k2) (C.2.2.2.2 _ k3) hE.1 hW.1 hW.2.1 hW.2.2.1 hW.2.2.2 hc h2 hcells hslots hdg (fun q H1 a1 a2 a3 => kk q H1 ⟨a1, a2, a3, hW.2.2.2⟩)
theorem y_callI {idx n fr mc ms lo nL1 : Nat} {y1 : MethodName} {b1 : ByteArray} {As : List Value} {wc : va_W} {wc' : (Nat → Nat) → va_W} {st0 : List Value}
    (C : CallFix p m c b nL s args TT own) (hE : KK G A s) (hX : va_AO "LentAir$Land" s) (hW : Wd G A s.heap H locs ws) (hM : Cn l y1 b1 nL1 fr mc ms lo G (.ref a :: As) wc wc') (hc : CI' y1 b1 nL1 n) (hl : Cond.methodLink own idx y1 ∈ TT)
    (hls : lv_has ls nL lv') (hn : As.length = n) (hst : st0 = As.reverse ++ .ref a :: rest) (hrest : (rest.map fun v => v.category).sum ≤ 8)
    (hR : fr + 1 ≤ R.frames ∧ 8 + (nL1 + 11) + lo ≤ R.locals) (hroom : cells + mc ≤ R.cells ∧ slots + ms ≤ R.slots)
    (isC isR : List Nat) (hC : isC.map (fun i => ws[i]?) = wc.map some) (hRs : isR.all (fun i => decide (i < ws.length)) = true) (hnr : va_nd isR = true) (hdis : ∀ i ∈ isR, i ∉ isC) (hnc : va_nd isC = true)
    (hdg : decode b pc = .ok (.invokespecial idx, 3))
    (kk : ∀ (ad : Nat → Nat) (H1 : Heap) (locs1 : List Loc), Wd G A s.heap H1 locs1 ((isR.filterMap fun i => ws[i]?) ++ wc' ad) → W p l e R s m args below meth c H1 locs1 (cells + mc) (slots + ms) Q (F0 m (pc + 3) ls rest)) : W p l e R s m args below meth c H locs cells slots Q (F0 m pc ls st0) := by
  obtain ⟨k1, k3, k4, k7, k5, k6⟩ := hc
  have hP1 := hW.1.sub (ws' := wc) isC (by
    have := congrArg (List.filterMap id) hC
    simpa [List.filterMap_map, Function.comp_def] using this)
  have hD1 := (hW.2.1.sub isC hnc hC).weaken (B := fun _ => True) (fun _ _ _ _ => trivial)
  have hF := va_free hW.2.1 hW.2.2.1 hW.2.2.2 isC hC
  have hrun : va_Run p l e R s m args below meth c H locs cells slots mc ms (F0 m pc ls st0) rest (Qn G wc' (va_A wc H.size) (Value.ref a :: As).toArray) (va_A wc H.size) := by
    refine va_runI (As := As) (rest := rest) C (hM H.size) (cwI n C.2.2.2.2 (tt_sub0 (tt_code k4)) rfl rfl rfl (C.2.2.2.2 _ k3) (C.2.2.2.2 _ hl) (C.2.2.2.2 _ k1) k7 ⟨k5.1, k5.2, k6⟩ hR) ⟨fun a' U g mk q => ?_, fun U hU hw => ?_⟩ rfl hn hls.1 hst (lv_room hrest) hdg hroom
    · obtain ⟨z0, z1, z2, z3, z4, z5⟩ := q
      exact ⟨z0, z1, z2, z3.blind g mk a', z4, va_AO.moved (u := U) (U := U.calling g mk a') (Vm.Alike.refl U.vm) z5⟩
    · exact ⟨rfl, by rw [hU], by rw [hU]; exact hP1, hE.warm hw (by rw [hU]; exact hW.2.2.1) hF, hD1, va_AO.moved hw.alike hX⟩
  intro T hT X
  obtain ⟨v, st₀, t, T', L, h0, X', hL, e1, e2, ⟨⟨ad, hv, hp1, hd1⟩, hz, hk⟩, st⟩ := hrun T hT X
  cases hv
  rw [h0] at hz hk
  have hj := va_join (H1 := t.heap) hW.1 hW.2.1 isC isR hC (wd_rest hRs) hnr hdis (fun q h1 h2 => hk q h1 h2) hF hp1 hd1
  obtain ⟨t2, a1, b1⟩ := kk ad T'.heap (locs ++ L) (by
    refine ⟨by rw [e1]; exact hj.1, hj.2, ⟨Nat.le_trans hW.2.2.1.1 (by rw [e1]; exact hz), fun q h1 h2 => ?_, fun q hq => ?_⟩, hW.2.2.2⟩
    · rw [e1, hk q (Nat.lt_of_lt_of_le h1 hW.2.2.1.1) (fun z => h2 (hF q z))]
      exact hW.2.2.1.2.1 q h1 h2
    · rcases List.mem_append.mp hq with h | h
      · exact hW.2.2.1.2.2 q h
      · exact hF _ (hL q h)) T' rfl X'
  exact ⟨t2, st t2 a1, b1⟩
/-- an int of the script onto the stack -/
theorem y_arg {bb L i k aA aM : Nat} {kc : Int} {xs : Nat → Int32} (C : CallFix p m c b nL s args TT own) (hX : va_X bb L xs s s.heap) (hbl : bb < s.heap.size) (hL : L ≤ 384) (hW : Wd G (LA s) s.heap H locs ws) (hl : lv_has ls nL (lvL bb aA aM i)) (hk : Int32.ofInt kc = nI k) (hik : i + k < L)
    (d0 : decode b pc = .ok (.aload_n 0, 1)) (d1 : decode b (pc + 1) = .ok (.iload_n 3, 1)) (d2 : decode b (pc + 2) = .ok (.iconst kc, 1)) (d3 : decode b (pc + 3) = .ok (.iadd, 1)) (d4 : decode b (pc + 4) = .ok (.iaload, 1))
    (kk : W p l e R s m args below meth c H locs cells slots Q (F0 m (pc + 5) ls (.int (xs (i + k)) :: rest))) : W p l e R s m args below meth c H locs cells slots Q (F0 m pc ls rest) := by
  refine lv_aload_n C.1 C.2.1 d0 rfl (lv_at hl 3 rfl) ?_
  refine lv_iload_n C.1 C.2.1 d1 rfl (lv_at hl 0 rfl) ?_
  refine lv_iconst C.1 C.2.1 d2 hk ?_
  refine lv_iadd C.1 C.2.1 d3 ?_
  rw [nIa]
  have hin : vp_in (nI (i + k)) L := vp_in_nI hik (by omega)
  refine va_sld C.1 C.2.1 hX hbl (Nat.not_le.mpr hbl) hW.2.2.1 hin d4 ?_
  rw [nI_clamp (by omega)]
  exact kk
end LWR

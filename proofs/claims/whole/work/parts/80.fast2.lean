/-! the same, for calls that use many cells of the world -/
theorem wd_put2 {D : va_G} {A : Nat → Prop} {ws ws' wr wc' : va_W} {H1 : Heap} (isC isR : List Nat) (hR : isR.map (fun i => ws[i]?) = wr.map some) (hP : va_P D classes (wr ++ wc') H1) (hD : va_D A (wr ++ wc')) (hcov : ∀ k, k < ws'.length → k ∈ isC ∨ k ∈ isR) (h1 : isC.map (fun i => ws'[i]?) = wc'.map some) (h2 : isR.map (fun i => ws'[i]?) = isR.map (fun i => ws[i]?)) : va_P D classes ws' H1 ∧ va_D A ws' := by
  have hall : (isR ++ isC).map (fun i => ws'[i]?) = (wr ++ wc').map some := by
    rw [List.map_append, List.map_append, h2, hR, h1]
  have key : ∀ (k : Nat) (q : Nat × va_E), ws'[k]? = some q → ∃ f : Nat, (isR ++ isC)[f]? = some k ∧ (wr ++ wc')[f]? = some q := by
    intro k q hk
    have hm : k ∈ isR ++ isC := List.mem_append.mpr (hcov k (List.getElem?_eq_some_iff.mp hk).1).symm
    obtain ⟨f, hf⟩ := List.mem_iff_getElem?.mp hm
    have h3 : ((isR ++ isC).map (fun i => ws'[i]?))[f]? = some (some q) := by rw [List.getElem?_map, hf, Option.map_some, hk]
    rw [hall, List.getElem?_map] at h3
    cases hw : (wr ++ wc')[f]? with
    | none => rw [hw] at h3; cases h3
    | some q' =>
      rw [hw] at h3
      obtain rfl : q' = q := Option.some.inj (Option.some.inj h3)
      exact ⟨f, hf, hw⟩
  refine ⟨fun k q hk => ?_, fun k1 k2 q1 q2 h1 h2 e => ?_, fun k q hk => ?_⟩
  · obtain ⟨f, -, hf⟩ := key k q hk
    exact hP f q hf
  · obtain ⟨f1, a1, g1⟩ := key k1 q1 h1
    obtain ⟨f2, a2, g2⟩ := key k2 q2 h2
    have ef := hD.1 f1 f2 q1 q2 g1 g2 e
    subst ef
    exact Option.some.inj (a1.symm.trans a2)
  · obtain ⟨f, -, hf⟩ := key k q hk
    exact hD.2 f q hf
section LWF
variable {p : Program} {l : Launch} {e : Env} {R : Room} {s : State} {m : MethodId} {args : Array Value} {below : List Frame} {meth : Method} {c : Code} {H : Heap} {locs : List Loc} {cells slots : Nat} {Q : State → Prop}
  {own : String} {b : ByteArray} {nL : Nat} {G : Gl} {A : Nat → Prop} {H0 : Heap} {ws ws' : va_W} {pc : Nat} {ls : Array Slot} {rest : List Value} {a : Nat} {lv' : List (Nat × Value)}
theorem x_runX {av : Array Value} {rv : Option Value} {wc wc' wr : va_W} {st0 : List Value} (hr : va_Run p l e R s m args below meth c H locs cells slots 0 0 (F0 m pc ls st0) rest (Qx G rv wc' (va_A wc H.size) av) (va_A wc H.size)) (hW : Wd G A H0 H locs ws) (isC isR : List Nat) (hC : isC.map (fun i => ws[i]?) = wc.map some) (hR : isR.map (fun i => ws[i]?) = wr.map some) (hn : va_nd isR = true) (hdis : ∀ i ∈ isR, i ∉ isC)
    (hcov : ∀ k, k < ws'.length → k ∈ isC ∨ k ∈ isR) (h1 : isC.map (fun i => ws'[i]?) = wc'.map some) (h2 : isR.map (fun i => ws'[i]?) = isR.map (fun i => ws[i]?))
    (kk : ∀ (H1 : Heap) (locs1 : List Loc), Wd G A H0 H1 locs1 ws' → W p l e R s m args below meth c H1 locs1 cells slots Q (F0 m (pc + 3) ls (rv.toList ++ rest))) : W p l e R s m args below meth c H locs cells slots Q (F0 m pc ls st0) := by
  intro T hT X
  obtain ⟨v, st₀, t, T', L, h0, X', hL, e1, e2, ⟨⟨hv, hp1, hd1⟩, hz, hk⟩, st⟩ := hr T hT X
  cases hv
  rw [h0] at hz hk
  have hF := va_free hW.2.1 hW.2.2.1 hW.2.2.2 isC hC
  have hj := va_join (H1 := t.heap) hW.1 hW.2.1 isC isR hC hR hn hdis (fun q z1 z2 => hk q z1 z2) hF hp1 hd1
  have hj2 := wd_put2 isC isR hR hj.1 hj.2 hcov h1 h2
  obtain ⟨t2, a1, b1⟩ := kk T'.heap (locs ++ L) (by
    refine ⟨by rw [e1]; exact hj2.1, hj2.2, ⟨Nat.le_trans hW.2.2.1.1 (by rw [e1]; exact hz), fun q z1 z2 => ?_, fun q hq => ?_⟩, hW.2.2.2⟩
    · rw [e1, hk q (Nat.lt_of_lt_of_le z1 hW.2.2.1.1) (fun z => z2 (hF q z))]
      exact hW.2.2.1.2.1 q z1 z2
    · rcases List.mem_append.mp hq with h | h
      · exact hW.2.2.1.2.2 q h
      · exact hF _ (hL q h)) T' rfl X'
  exact ⟨t2, st t2 a1, b1⟩
theorem y_callX {idx n fr lo nL1 ci q0 N0 : Nat} {y1 : MethodName} {b1 : ByteArray} {ret1 : Option FieldType} {As : List Value} {rv : Option Value} {wc wc' : va_W} {st0 stk : List Value} {K : String} {T : u_T} {N : Nat} {fs : List Value}
    (C : CallFix p m c b nL s args TT own) (hE : KK G A s) (hW : Wd G A s.heap H locs ws) (hM : Ct l y1 b1 nL1 ret1 fr lo G (.ref a :: As) wc rv wc') (hc : CV y1 b1 nL1 ret1 n) (hl : Cond.methodLink own idx y1 ∈ TT)
    (hls : lv_has ls nL lv') (hn : As.length = n) (hst : st0 = As.reverse ++ .ref a :: rest) (hrest : (rest.map fun v => v.category).sum ≤ 8)
    (hr : ws[q0]? = some (a, .inr (ci, fs))) (hci : classes[ci]? = some (K, T, N)) (hKc : y1.cls = K) (hR : fr + 1 ≤ R.frames ∧ 8 + (nL1 + 11) + lo ≤ R.locals) (hroom : cells ≤ R.cells ∧ slots ≤ R.slots)
    (isC isR : List Nat) (hF : LF isC isR N0) (hN : ws.length = N0) (hN' : ws'.length = N0) (hC : isC.map (fun i => ws[i]?) = wc.map some) (h1 : isC.map (fun i => ws'[i]?) = wc'.map some) (h2 : isR.map (fun i => ws'[i]?) = isR.map (fun i => ws[i]?))
    (hstk : rv.toList ++ rest = stk) (hdg : decode b pc = .ok (.invokevirtual idx, 3))
    (kk : ∀ (H1 : Heap) (locs1 : List Loc), Wd G A s.heap H1 locs1 ws' → W p l e R s m args below meth c H1 locs1 cells slots Q (F0 m (pc + 3) ls stk)) : W p l e R s m args below meth c H locs cells slots Q (F0 m pc ls st0)   := by
  subst hstk
  subst hKc
  obtain ⟨hRs, hnr, hdis, hnc, hcov⟩ := hF
  obtain ⟨k1, k2, k3, k4, k5, k6⟩ := hc
  have hP1 := hW.1.sub (ws' := wc) isC (by
    have := congrArg (List.filterMap id) hC
    simpa [List.filterMap_map, Function.comp_def] using this)
  have hD1 := (hW.2.1.sub isC hnc hC).weaken (B := fun _ => True) (fun _ _ _ _ => trivial)
  refine x_runX (av := (Value.ref a :: As).toArray) (va_runV (As := As) (rest := rest) C (hM H.size) (cwV n C.2.2.2.2 (tt_sub0 (fun w hw => ?_)) rfl rfl rfl ⟨rfl, k5.1, k5.2, k6⟩ hR) ⟨fun a' U g mk q => ?_, va_recv hE.1 hW.1 hci hr, fun U hU hw => ?_⟩ rfl hn hls.1 hst (lv_room hrest) hdg ⟨hroom.1, hroom.2⟩) hW isC isR hC (wd_rest (by rw [hN]; exact hRs)) hnr hdis (fun k hk => hcov k (by rw [← hN']; exact hk)) h1 h2 kk
  · rcases List.mem_append.mp hw with h | h
    · simp only [List.mem_cons, List.not_mem_nil, or_false] at h
      rcases h with rfl | rfl | rfl | rfl
      · exact hl
      · exact k1
      · exact k2
      · exact k3
    · exact tt_code k4 w h
  · obtain ⟨z0, z1, z2, z3, z4⟩ := q
    exact ⟨z0, z1, z2, z3.blind g mk a', z4⟩
  · exact ⟨rfl, by rw [hU], by rw [hU]; exact hP1, hE.warm hw (by rw [hU]; exact hW.2.2.1) (va_free hW.2.1 hW.2.2.1 hW.2.2.2 isC hC), hD1⟩
end LWF

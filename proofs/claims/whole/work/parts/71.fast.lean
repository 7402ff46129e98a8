/-! a call that keeps the order of the world's cells -/
def putA : va_W → List Nat → va_W → va_W
  | ws, i :: is, c :: cs => putA (ws.set i c) is cs
  | ws, [], _ => ws
  | ws, _ :: _, [] => ws
theorem putA_at : ∀ (is : List Nat) (cs ws : va_W), is.length = cs.length → ∀ (k : Nat) (q : Nat × va_E), (putA ws is cs)[k]? = some q → (∃ t : Nat, is[t]? = some k ∧ cs[t]? = some q) ∨ (k ∉ is ∧ ws[k]? = some q)
  | [], cs, ws, _, k, q, h => Or.inr ⟨List.not_mem_nil, by cases cs <;> exact h⟩
  | i :: is, [], ws, hl, k, q, h => by simp at hl
  | i :: is, c :: cs, ws, hl, k, q, h => by
    have h' : (putA (ws.set i c) is cs)[k]? = some q := h
    rcases putA_at is cs (ws.set i c) (by simpa using hl) k q h' with ⟨t, h1, h2⟩ | ⟨h1, h2⟩
    · exact Or.inl ⟨t + 1, by simpa using h1, by simpa using h2⟩
    · by_cases hk : k = i
      · subst hk
        rw [List.getElem?_set_self'] at h2
        cases hw : ws[k]? with
        | none => rw [hw] at h2; cases h2
        | some q' =>
          rw [hw] at h2
          exact Or.inl ⟨0, rfl, h2⟩
      · rw [List.getElem?_set_ne (Ne.symm hk)] at h2
        exact Or.inr ⟨by simp [hk, h1], h2⟩
theorem wd_put {D : va_G} {A : Nat → Prop} {ws wr wc' : va_W} {H1 : Heap} (isC isR : List Nat) (hR : isR.map (fun i => ws[i]?) = wr.map some) (hP : va_P D classes (wr ++ wc') H1) (hD : va_D A (wr ++ wc')) (hcov : ∀ k, k < ws.length → k ∈ isC ∨ k ∈ isR) (hlc : isC.length = wc'.length) : va_P D classes (putA ws isC wc') H1 ∧ va_D A (putA ws isC wc') := by
  have key : ∀ (k : Nat) (q : Nat × va_E), (putA ws isC wc')[k]? = some q → ∃ f, (wr ++ wc')[f]? = some q ∧ ((∃ t, f = wr.length + t ∧ isC[t]? = some k) ∨ (f < wr.length ∧ isR[f]? = some k)) := by
    intro k q hk
    rcases putA_at isC wc' ws hlc k q hk with ⟨t, h1, h2⟩ | ⟨h1, h2⟩
    · exact ⟨wr.length + t, by rw [List.getElem?_append_right (by omega), Nat.add_sub_cancel_left]; exact h2, Or.inl ⟨t, rfl, h1⟩⟩
    · obtain ⟨a, ha⟩ := List.mem_iff_getElem?.mp ((hcov k (List.getElem?_eq_some_iff.mp h2).1).resolve_left h1)
      have h3 : (isR.map (fun i => ws[i]?))[a]? = some (some q) := by rw [List.getElem?_map, ha, Option.map_some, h2]
      rw [hR, List.getElem?_map] at h3
      cases hw : wr[a]? with
      | none => rw [hw] at h3; cases h3
      | some q' =>
        rw [hw] at h3
        obtain rfl : q' = q := Option.some.inj (Option.some.inj h3)
        have hlt := (List.getElem?_eq_some_iff.mp hw).1
        exact ⟨a, by rw [List.getElem?_append_left hlt]; exact hw, Or.inr ⟨hlt, ha⟩⟩
  refine ⟨fun k q hk => ?_, fun k1 k2 q1 q2 h1 h2 e => ?_, fun k q hk => ?_⟩
  · obtain ⟨f, hf, -⟩ := key k q hk
    exact hP f q hf
  · obtain ⟨f1, g1, c1⟩ := key k1 q1 h1
    obtain ⟨f2, g2, c2⟩ := key k2 q2 h2
    have ef := hD.1 f1 f2 q1 q2 g1 g2 e
    subst ef
    rcases c1 with ⟨t1, e1, a1⟩ | ⟨l1, a1⟩
    · rcases c2 with ⟨t2, e2, a2⟩ | ⟨l2, a2⟩
      · obtain rfl : t1 = t2 := by omega
        exact Option.some.inj (a1.symm.trans a2)
      · omega
    · rcases c2 with ⟨t2, e2, a2⟩ | ⟨l2, a2⟩
      · omega
      · exact Option.some.inj (a1.symm.trans a2)
  · obtain ⟨f, hf, -⟩ := key k q hk
    exact hD.2 f q hf
/-- facts of lists of places: those that a call uses, the others, all of N -/
def LF (isC isR : List Nat) (N : Nat) : Prop := isR.all (fun i => decide (i < N)) = true ∧ va_nd isR = true ∧ (∀ i ∈ isR, i ∉ isC) ∧ va_nd isC = true ∧ (∀ k, k < N → k ∈ isC ∨ k ∈ isR)
section LWF
variable {p : Program} {l : Launch} {e : Env} {R : Room} {s : State} {m : MethodId} {args : Array Value} {below : List Frame} {meth : Method} {c : Code} {H : Heap} {locs : List Loc} {cells slots : Nat} {Q : State → Prop}
  {own : String} {b : ByteArray} {nL : Nat} {G : Gl} {A : Nat → Prop} {H0 : Heap} {ws ws' : va_W} {pc : Nat} {ls : Array Slot} {rest : List Value} {a : Nat} {lv' : List (Nat × Value)}
theorem x_runW {av : Array Value} {rv : Option Value} {wc wc' wr : va_W} {st0 : List Value} (hr : va_Run p l e R s m args below meth c H locs cells slots 0 0 (F0 m pc ls st0) rest (Qx G rv wc' (va_A wc H.size) av) (va_A wc H.size)) (hW : Wd G A H0 H locs ws) (isC isR : List Nat) (hC : isC.map (fun i => ws[i]?) = wc.map some) (hR : isR.map (fun i => ws[i]?) = wr.map some) (hn : va_nd isR = true) (hdis : ∀ i ∈ isR, i ∉ isC)
    (hcov : ∀ k, k < ws.length → k ∈ isC ∨ k ∈ isR) (hlc : isC.length = wc'.length) (hws : putA ws isC wc' = ws')
    (kk : ∀ (H1 : Heap) (locs1 : List Loc), Wd G A H0 H1 locs1 ws' → W p l e R s m args below meth c H1 locs1 cells slots Q (F0 m (pc + 3) ls (rv.toList ++ rest))) : W p l e R s m args below meth c H locs cells slots Q (F0 m pc ls st0) := by
  subst hws
  intro T hT X
  obtain ⟨v, st₀, t, T', L, h0, X', hL, e1, e2, ⟨⟨hv, hp1, hd1⟩, hz, hk⟩, st⟩ := hr T hT X
  cases hv
  rw [h0] at hz hk
  have hF := va_free hW.2.1 hW.2.2.1 hW.2.2.2 isC hC
  have hj := va_join (H1 := t.heap) hW.1 hW.2.1 isC isR hC hR hn hdis (fun q h1 h2 => hk q h1 h2) hF hp1 hd1
  have hj2 := wd_put isC isR hR hj.1 hj.2 hcov hlc
  obtain ⟨t2, a1, b1⟩ := kk T'.heap (locs ++ L) (by
    refine ⟨by rw [e1]; exact hj2.1, hj2.2, ⟨Nat.le_trans hW.2.2.1.1 (by rw [e1]; exact hz), fun q h1 h2 => ?_, fun q hq => ?_⟩, hW.2.2.2⟩
    · rw [e1, hk q (Nat.lt_of_lt_of_le h1 hW.2.2.1.1) (fun z => h2 (hF q z))]
      exact hW.2.2.1.2.1 q h1 h2
    · rcases List.mem_append.mp hq with h | h
      · exact hW.2.2.1.2.2 q h
      · exact hF _ (hL q h)) T' rfl X'
  exact ⟨t2, st t2 a1, b1⟩
theorem y_callW {idx n fr lo nL1 ci q0 N0 : Nat} {y1 : MethodName} {b1 : ByteArray} {ret1 : Option FieldType} {As : List Value} {rv : Option Value} {wc wc' : va_W} {st0 stk : List Value} {K : String} {T : u_T} {N : Nat} {fs : List Value}
    (C : CallFix p m c b nL s args TT own) (hE : KK G A s) (hW : Wd G A s.heap H locs ws) (hM : Ct l y1 b1 nL1 ret1 fr lo G (.ref a :: As) wc rv wc') (hc : CV y1 b1 nL1 ret1 n) (hl : Cond.methodLink own idx y1 ∈ TT)
    (hls : lv_has ls nL lv') (hn : As.length = n) (hst : st0 = As.reverse ++ .ref a :: rest) (hrest : (rest.map fun v => v.category).sum ≤ 8)
    (hr : ws[q0]? = some (a, .inr (ci, fs))) (hci : classes[ci]? = some (K, T, N)) (hKc : y1.cls = K) (hR : fr + 1 ≤ R.frames ∧ 8 + (nL1 + 11) + lo ≤ R.locals) (hroom : cells ≤ R.cells ∧ slots ≤ R.slots)
    (isC isR : List Nat) (hF : LF isC isR N0) (hN : ws.length = N0) (hC : isC.map (fun i => ws[i]?) = wc.map some) (hlc : isC.length = wc'.length) (hws : putA ws isC wc' = ws')
    (hstk : rv.toList ++ rest = stk) (hdg : decode b pc = .ok (.invokevirtual idx, 3))
    (kk : ∀ (H1 : Heap) (locs1 : List Loc), Wd G A s.heap H1 locs1 ws' → W p l e R s m args below meth c H1 locs1 cells slots Q (F0 m (pc + 3) ls stk)) : W p l e R s m args below meth c H locs cells slots Q (F0 m pc ls st0)   := by
  subst hstk
  subst hKc
  subst hN
  obtain ⟨hRs, hnr, hdis, hnc, hcov⟩ := hF
  obtain ⟨k1, k2, k3, k4, k5, k6⟩ := hc
  have hP1 := hW.1.sub (ws' := wc) isC (by
    have := congrArg (List.filterMap id) hC
    simpa [List.filterMap_map, Function.comp_def] using this)
  have hD1 := (hW.2.1.sub isC hnc hC).weaken (B := fun _ => True) (fun _ _ _ _ => trivial)
  refine x_runW (av := (Value.ref a :: As).toArray) (va_runV (As := As) (rest := rest) C (hM H.size) (cwV n C.2.2.2.2 (tt_sub0 (fun w hw => ?_)) rfl rfl rfl ⟨rfl, k5.1, k5.2, k6⟩ hR) ⟨fun a' U g mk q => ?_, va_recv hE.1 hW.1 hci hr, fun U hU hw => ?_⟩ rfl hn hls.1 hst (lv_room hrest) hdg ⟨hroom.1, hroom.2⟩) hW isC isR hC (wd_rest hRs) hnr hdis hcov hlc hws kk
  · rcases List.mem_append.mp hw with h | h
    · simp only [List.mem_cons, List.not_mem_nil, or_false] at h
      rcases h with rfl | rfl | rfl | rfl
      · exact hl
      · exact k1
      · exact k2
      · exact k3
    · exact tt_code k4 w h
  · obtain ⟨z0, z1, z2, z3, z4⟩ := q
    exact ⟨z0, z1, z2, z3.blind g mk a', z4⟩
  · exact ⟨rfl, by rw [hU], by rw [hU]; exact hP1, hE.warm hw (by rw [hU]; exact hW.2.2.1) (va_free hW.2.1 hW.2.2.1 hW.2.2.2 isC hC), hD1⟩
end LWF

/-! constructors: what is made comes behind the world -/
def Qn (G : Gl) (ws' : (Nat → Nat) → va_W) (A : Nat → Prop) : Array Value → State → Outcome → State → Prop := fun _ st oc t => (∃ ad : Nat → Nat, oc = .returned none ∧ va_P G.1 classes (ws' ad) t.heap ∧ va_D A (ws' ad)) ∧ va_F A st t
def RN (fr mc ms lo : Nat) : Room := { frames := fr, cells := mc, slots := ms, locals := lo }
def Cn (l : Launch) (y : MethodName) (b : ByteArray) (nL : Nat) (fr mc ms lo : Nat) (G : Gl) (av : List Value) (ws : va_W) (ws' : (Nat → Nat) → va_W) : Prop :=
  ∀ sz : Nat, Met l y (Cond.code y b nL none :: TT) (RN fr mc ms lo) (va_Pc av (fun U => U.heap.size = sz ∧ va_P G.1 classes ws U.heap ∧ KK G (va_A ws sz) U ∧ va_D (fun _ => True) ws ∧ va_AO "LentAir$Land" U)) (Qn G ws' (va_A ws sz)) mc ms (va_A ws sz)
theorem Cn.mk {l : Launch} {y : MethodName} {b : ByteArray} {nL : Nat} {fr mc ms lo : Nat} {G : Gl} {av : List Value} {ws : va_W} {ws' : (Nat → Nat) → va_W} (hy : plainName y.cls = true) (hn : (lg_sl av).length ≤ nL)
    (body : ∀ (p : Program) (e : Env) (s : State) (m : MethodId) (args : Array Value) (below : List Frame) (meth : Method) (c : Code) (ls : Array Slot) (A : Nat → Prop) (Q : State → Prop), Cx p s args m c meth y.cls y b nL none → meth.name = y.name → KK G A s → va_AO "LentAir$Land" s → Wd G A s.heap s.heap [] ws → lv_has ls nL (lv_args 0 av) → Q = MQ below (Qn G ws' A) args s mc ms A → W p l e (RN fr mc ms lo) s m args below meth c s.heap [] 0 0 Q (F0 m 0 ls [])) : Cn l y b nL fr mc ms lo G av ws ws' := by
  intro sz
  refine Met.ofW (cc := b) (maxL := nL) (ret := none) hy rfl ?_
  intro p e s m args below meth c s₁ B hml hv
  obtain ⟨rfl, hsz, hP, hE, hD0, hX⟩ := hv
  subst hsz
  have hl := lv_entry av (n := nL) hn
  rw [lg_entry_eq]
  exact body p e s m av.toArray below meth c _ _ _ ⟨⟨B.exec, B.bytes, hml, findClass_of_methodNamed B.named, atoms_spec B.pre⟩, B.returns, B.notSynchronized⟩ (name_of_methodNamed B.named B.method).1 hE hX ⟨hP, hD0.self, va_S.rf, fun q h => Or.inr h⟩ hl rfl
section XN
variable {p : Program} {l : Launch} {e : Env} {R : Room} {s : State} {m : MethodId} {args : Array Value} {below : List Frame} {meth : Method} {c : Code} {H : Heap} {locs : List Loc} {cells slots : Nat} {Q : State → Prop}
  {own : String} {y : MethodName} {b : ByteArray} {nL : Nat} {ret : Option FieldType} {G : Gl} {A : Nat → Prop} {H0 : Heap} {ws ws' : va_W} {pc : Nat} {ls : Array Slot} {rest : List Value} {a : Nat} {lv' : List (Nat × Value)}
theorem x_ainit {idx : Nat} {R : Room} (C : Cx p s args m c meth own y b nL ret) (hl : lv_has ls nL lv') (k1 : Cond.methodLink own idx ⟨"java/lang/Object", "<init>", "()V"⟩ ∈ TT) (hdg : decode b pc = .ok (.invokespecial idx, 3)) (hf : 1 ≤ R.frames) (hlo : (rest.map fun v => v.category).sum + 12 ≤ R.locals)
    (kk : W p l e R s m args below meth c H locs cells slots Q (F0 m (pc + 3) ls rest)) : W p l e R s m args below meth c H locs cells slots Q (F0 m pc ls (.ref a :: rest)) :=
  W.objInit C.1.1 C.1.2.1 C.1.2.2.2.1 (C.w k1) (C.w tw96) (C.w tw97) rfl (hl.1.trans C.1.2.2.1.symm) rfl hdg hf (by show 2 * 0 + _ + 12 ≤ _; omega) kk
def FN (own : String) (idx ci k : Nat) (ty : FieldType) : Prop := ∃ (C : String) (T : u_T) (N : Nat) (ty0 : Nat → FieldType), classes[ci]? = some (C, T, N) ∧ k < N ∧ (∀ w ∈ u_ws C T N, w ∈ TT) ∧ Cond.fieldLink own idx (T k).1 (T k).2.1 (T k).2.2.1 ∈ TT ∧ (∀ k, k < N → parseFieldDescriptor (T k).2.2.1 = some (ty0 k)) ∧ (∀ a, a < N → ∀ b, b < N → a ≠ b → (T a).2.1 ≠ (T b).2.1) ∧ (T k).2.2.2 = true ∧ (T k).1 = own ∧ parseFieldDescriptor (T k).2.2.1 = some ty
theorem x_putF {idx ci k : Nat} {ty : FieldType} (C : Cx p s args m c meth own y b nL ret) (hin2 : meth.name = "<init>") (hE : KK G A s) (hW : Wd G A H0 H locs ws) (hf : FN own idx ci k ty) (q0 : Nat) {fs : List Value} (he : ws[q0]? = some (a, .inr (ci, fs))) {v : Value} (hn : narrow ty v = v) (hfit : fits ty v = true) (hlen : k < fs.length) (hws : ws.set q0 (a, .inr (ci, fs.set k v)) = ws') (hdg : decode b pc = .ok (.putfield idx, 3))
    (kk : ∀ (H1 : Heap) (locs1 : List Loc), Wd G A H0 H1 locs1 ws' → W p l e R s m args below meth c H1 locs1 cells slots Q (F0 m (pc + 3) ls rest)) : W p l e R s m args below meth c H locs cells slots Q (F0 m pc ls (v :: .ref a :: rest)) := by
  obtain ⟨K, T, N, ty0, hc, hk, hin, hl, h1, h2, h3, h5, h4⟩ := hf
  subst hws
  exact va_putF (ref := (T k).1) C.1.1 C.1.2.1 (fun w h => C.w h) hin ty0 h1 h2 C.1.2.2.2.1 hE.1 hW.1 hW.2.1 hW.2.2.1 q0 he hc k hk (C.w hl) (fun _ h => h) h3 hin2 h5 h4 hn hfit hlen hdg (fun H1 L1 a1 a2 a3 => kk H1 L1 ⟨a1, a2, a3, hW.2.2.2⟩)
/-- what is needed to make an object of a class -/
def NW (own : String) (idx ci N : Nat) (fs : List Value) : Prop := ∃ (C : String) (T : u_T) (ty0 : Nat → FieldType), classes[ci]? = some (C, T, N) ∧ (∀ w ∈ u_ws C T N, w ∈ TT) ∧ Cond.classLink own idx C ∈ TT ∧ Cond.instantiable C N ∈ TT ∧ Cond.initialized C ∈ TT ∧ (∀ k, k < N → parseFieldDescriptor (T k).2.2.1 = some (ty0 k)) ∧ ∀ j, j < N → defaultValue (ty0 j) = vp_V fs j
theorem x_new {idx ci N : Nat} {fs : List Value} (C : Cx p s args m c meth own y b nL ret) (hE : KK G A s) (hW : Wd G A H0 H locs ws) (hf : NW own idx ci N fs) (hcells : cells + 1 ≤ R.cells) (hslots : slots + N ≤ R.slots) (hdg : decode b pc = .ok (.new idx, 3))
    (kk : ∀ (q : Nat) (H1 : Heap), Wd G A H0 H1 locs (ws ++ [(q, .inr (ci, fs))]) → W p l e R s m args below meth c H1 locs (cells + 1) (slots + N) Q (F0 m (pc + 3) ls (.ref q :: rest))) : W p l e R s m args below meth c H locs cells slots Q (F0 m pc ls rest) := by
  obtain ⟨K, T, ty0, hc, hin, k1, k2, k3, h1, h2⟩ := hf
  exact va_new C.1.1 C.1.2.1 (fun w h => C.w h) hin ty0 h1 C.1.2.2.2.1 (C.w k1) (C.w k2) (C.w k3) hE.1 hW.1 hW.2.1 hW.2.2.1 hW.2.2.2 hc h2 hcells hslots hdg (fun q H1 a1 a2 a3 => kk q H1 ⟨a1, a2, a3, hW.2.2.2⟩)
theorem x_newI {n : Int32} {N' : Nat} (C : Cx p s args m c meth own y b nL ret) (hE : KK G A s) (hW : Wd G A H0 H locs ws) (hn : ¬ n < 0) (hN : n.toNatClampNeg = N') (hbytes : N' * componentBytes .int ≤ 536870912) (hcells : cells + 1 ≤ R.cells) (hslots : slots + N' ≤ R.slots) (hdg : decode b pc = .ok (.newarray .int, 2))
    (kk : ∀ (q : Nat) (H1 : Heap), Wd G A H0 H1 locs (ws ++ [(q, .inl (gI G, N', .inl (fun _ => 0)))]) → W p l e R s m args below meth c H1 locs (cells + 1) (slots + N') Q (F0 m (pc + 2) ls (.ref q :: rest))) : W p l e R s m args below meth c H locs cells slots Q (F0 m pc ls (.int n :: rest)) := by
  refine va_newa (atype := .int) (ty := .int) (a0 := (N', .inl (fun _ => 0))) C.1.1 C.1.2.1 (C.w tw201) rfl hE.1 hW.1 hW.2.1 hW.2.2.1 hW.2.2.2 (fun _ => rfl) hn hN hbytes hcells hslots hdg (fun q cA H1 a0 a1 a2 a3 => ?_)
  obtain rfl : cA = gI G := Option.some.inj ((a0.2 5 (cA, .int) rfl).2.symm.trans (hE.1.2 0 (gI G, .int) rfl).2)
  exact kk q H1 ⟨a1, a2, a3, hW.2.2.2⟩
theorem x_newJ {n : Int32} {N' : Nat} (C : Cx p s args m c meth own y b nL ret) (hE : KK G A s) (hW : Wd G A H0 H locs ws) (hn : ¬ n < 0) (hN : n.toNatClampNeg = N') (hbytes : N' * componentBytes .long ≤ 536870912) (hcells : cells + 1 ≤ R.cells) (hslots : slots + N' ≤ R.slots) (hdg : decode b pc = .ok (.newarray .long, 2))
    (kk : ∀ (q : Nat) (H1 : Heap), Wd G A H0 H1 locs (ws ++ [(q, .inl (gJ G, N', .inr (.inl (fun _ => 0))))]) → W p l e R s m args below meth c H1 locs (cells + 1) (slots + N') Q (F0 m (pc + 2) ls (.ref q :: rest))) : W p l e R s m args below meth c H locs cells slots Q (F0 m pc ls (.int n :: rest)) := by
  refine va_newa (atype := .long) (ty := .long) (a0 := (N', .inr (.inl (fun _ => 0)))) C.1.1 C.1.2.1 (C.w tw200) rfl hE.1 hW.1 hW.2.1 hW.2.2.1 hW.2.2.2 (fun _ => rfl) hn hN hbytes hcells hslots hdg (fun q cA H1 a0 a1 a2 a3 => ?_)
  obtain rfl : cA = gJ G := Option.some.inj ((a0.2 5 (cA, .long) rfl).2.symm.trans (hE.1.2 1 (gJ G, .long) rfl).2)
  exact kk q H1 ⟨a1, a2, a3, hW.2.2.2⟩
theorem x_newZ {n : Int32} {N' : Nat} (C : Cx p s args m c meth own y b nL ret) (hE : KK G A s) (hW : Wd G A H0 H locs ws) (hn : ¬ n < 0) (hN : n.toNatClampNeg = N') (hbytes : N' * componentBytes .boolean ≤ 536870912) (hcells : cells + 1 ≤ R.cells) (hslots : slots + N' ≤ R.slots) (hdg : decode b pc = .ok (.newarray .boolean, 2))
    (kk : ∀ (q : Nat) (H1 : Heap), Wd G A H0 H1 locs (ws ++ [(q, .inl (gZ G, N', .inl (fun _ => 0)))]) → W p l e R s m args below meth c H1 locs (cells + 1) (slots + N') Q (F0 m (pc + 2) ls (.ref q :: rest))) : W p l e R s m args below meth c H locs cells slots Q (F0 m pc ls (.int n :: rest)) := by
  refine va_newa (atype := .boolean) (ty := .boolean) (a0 := (N', .inl (fun _ => 0))) C.1.1 C.1.2.1 (C.w tw248) rfl hE.1 hW.1 hW.2.1 hW.2.2.1 hW.2.2.2 (fun _ => rfl) hn hN hbytes hcells hslots hdg (fun q cA H1 a0 a1 a2 a3 => ?_)
  obtain rfl : cA = gZ G := Option.some.inj ((a0.2 5 (cA, .boolean) rfl).2.symm.trans (hE.1.2 2 (gZ G, .boolean) rfl).2)
  exact kk q H1 ⟨a1, a2, a3, hW.2.2.2⟩
theorem x_newB {n : Int32} {N' : Nat} (C : Cx p s args m c meth own y b nL ret) (hE : KK G A s) (hW : Wd G A H0 H locs ws) (hn : ¬ n < 0) (hN : n.toNatClampNeg = N') (hbytes : N' * componentBytes .byte ≤ 536870912) (hcells : cells + 1 ≤ R.cells) (hslots : slots + N' ≤ R.slots) (hdg : decode b pc = .ok (.newarray .byte, 2))
    (kk : ∀ (q : Nat) (H1 : Heap), Wd G A H0 H1 locs (ws ++ [(q, .inl (gB G, N', .inl (fun _ => 0)))]) → W p l e R s m args below meth c H1 locs (cells + 1) (slots + N') Q (F0 m (pc + 2) ls (.ref q :: rest))) : W p l e R s m args below meth c H locs cells slots Q (F0 m pc ls (.int n :: rest)) := by
  refine va_newa (atype := .byte) (ty := .byte) (a0 := (N', .inl (fun _ => 0))) C.1.1 C.1.2.1 (C.w tw278) rfl hE.1 hW.1 hW.2.1 hW.2.2.1 hW.2.2.2 (fun _ => rfl) hn hN hbytes hcells hslots hdg (fun q cA H1 a0 a1 a2 a3 => ?_)
  obtain rfl : cA = gB G := Option.some.inj ((a0.2 5 (cA, .byte) rfl).2.symm.trans (hE.1.2 3 (gB G, .byte) rfl).2)
  exact kk q H1 ⟨a1, a2, a3, hW.2.2.2⟩
theorem x_newO {idx : Nat} {n : Int32} {N' : Nat} (C : Cx p s args m c meth own y b nL ret) (hE : KK G A s) (hX : va_AO "LentAir$Land" s) (k1 : Cond.classLink own idx "LentAir$Land" ∈ TT) (hW : Wd G A H0 H locs ws) (hn : ¬ n < 0) (hN : n.toNatClampNeg = N') (hbytes : N' * 4 ≤ 536870912) (hcells : cells + 1 ≤ R.cells) (hslots : slots + N' ≤ R.slots) (hdg : decode b pc = .ok (.anewarray idx, 3))
    (kk : ∀ (q : Nat) (H1 : Heap), Wd G A H0 H1 locs (ws ++ [(q, .inl (gO G, N', .inr (.inr (.inr (.inr (fun _ => none))))))]) → W p l e R s m args below meth c H1 locs (cells + 1) (slots + N') Q (F0 m (pc + 3) ls (.ref q :: rest))) : W p l e R s m args below meth c H locs cells slots Q (F0 m pc ls (.int n :: rest)) := by
  refine va_newq C.1.1 C.1.2.1 C.1.2.2.2.1 (C.w k1) hX hE.1 hW.1 hW.2.1 hW.2.2.1 hW.2.2.2 hn hN hbytes hcells hslots hdg (fun q cA H1 a0 a1 a2 a3 => ?_)
  obtain ⟨z1, z2, -, -, -, z3⟩ := (a0.2 5 (cA, .object "LentAir$Land") rfl).2
  obtain ⟨w1, w2, -, -, -, w3⟩ := (hE.1.2 4 (gO G, .object "LentAir$Land") rfl).2
  obtain rfl : cA = gO G := Option.some.inj (z3.symm.trans w3)
  exact kk q H1 ⟨a1, a2, a3, hW.2.2.2⟩
theorem x_aast (C : Cx p s args m c meth own y b nL ret) (hE : KK G A s) (hW : Wd G A H0 H locs ws) (q0 qk ci : Nat) {r : vw_C} {n v : Nat} {vs : List Value} {f : Nat → Option Nat} (ha : ws[q0]? = some (a, .inl (gO G, n, .inr (.inr (.inr (.inr f)))))) (hr : r.1 = "LentAir$Land") (hv : ws[qk]? = some (v, .inr (ci, vs))) (hc : classes[ci]? = some r) {i : Int32} (hin : vp_in i n) (hws : ws.set q0 (a, .inl (gO G, n, .inr (.inr (.inr (.inr (va_up f i.toNatClampNeg (some v))))))) = ws') (hdg : decode b pc = .ok (.aastore, 1))
    (kk : ∀ (H1 : Heap) (locs1 : List Loc), Wd G A H0 H1 locs1 ws' → W p l e R s m args below meth c H1 locs1 cells slots Q (F0 m (pc + 1) ls rest)) : W p l e R s m args below meth c H locs cells slots Q (F0 m pc ls (.ref v :: .int i :: .ref a :: rest)) := by
  subst hws
  exact va_astq C.1.1 C.1.2.1 hE.1 hW.1 hW.2.1 hW.2.2.1 q0 4 qk ci ha (by rw [hr]; rfl) hv hc hin hdg (fun H1 L1 a1 a2 a3 => kk H1 L1 ⟨a1, a2, a3, hW.2.2.2⟩)
theorem wd_perm {ws ws' : va_W} (hW : Wd G A H0 H locs ws) (perm : List Nat) (hnp : va_nd perm = true) (hp : perm.map (fun i => ws[i]?) = ws'.map some) : Wd G A H0 H locs ws' :=
  ⟨hW.1.sub perm (by have := congrArg (List.filterMap id) hp; simpa [List.filterMap_map, Function.comp_def] using this), hW.2.1.sub perm hnp hp, hW.2.2.1, hW.2.2.2⟩
theorem x_nret {rm : Room} {mc ms : Nat} {ws' : (Nat → Nat) → va_W} (C : Cx p s args m c meth own y b nL none) (hW : Wd G A s.heap H locs ws) (ad : Nat → Nat) (perm : List Nat) (hnp : va_nd perm = true) (hp : perm.map (fun i => ws[i]?) = (ws' ad).map some) (hQ : Q = MQ below (Qn G ws' A) args s mc ms A) (h1 : cells ≤ mc) (h2 : slots ≤ ms) (hdg : decode b pc = .ok (.return_, 1)) : W p l e rm s m args below meth c H locs cells slots Q (F0 m pc ls []) := by
  subst hQ
  have hW := wd_perm hW perm hnp hp
  refine W.widen h1 h2 ?_
  exact W.vret C.1.1 C.1.2.1 C.2.1 (fun t ht hw => ⟨⟨ad, rfl, by rw [ht]; exact hW.1, hW.2.1⟩, hW.2.2.1.F ht⟩) hW.2.2.1.2.2 hdg C.2.2
def CI' (y : MethodName) (b : ByteArray) (nL n : Nat) : Prop := Cond.instanceMethod y ∈ TT ∧ Cond.initialized y.cls ∈ TT ∧ Cond.code y b nL none ∈ TT ∧ y.name = "<init>" ∧ (y.cls ≠ "java/lang/invoke/MethodHandle" ∧ y.cls ≠ "java/lang/invoke/VarHandle") ∧ (parseMethodDescriptor y.desc).map (fun d => d.parameters.length) = some n
theorem x_callI {idx n fr mc ms lo nL1 : Nat} {y1 : MethodName} {b1 : ByteArray} {As : List Value} {wc : va_W} {wc' : (Nat → Nat) → va_W} {st0 : List Value}
    (C : Cx p s args m c meth own y b nL ret) (hE : KK G A s) (hX : va_AO "LentAir$Land" s) (hW : Wd G A s.heap H locs ws) (hM : Cn l y1 b1 nL1 fr mc ms lo G (.ref a :: As) wc wc') (hc : CI' y1 b1 nL1 n) (hl : Cond.methodLink own idx y1 ∈ TT)
    (hls : lv_has ls nL lv') (hn : As.length = n) (hst : st0 = As.reverse ++ .ref a :: rest) (hrest : (rest.map fun v => v.category).sum ≤ 8)
    (hR : fr + 1 ≤ R.frames ∧ 8 + (nL1 + 11) + lo ≤ R.locals) (hroom : cells + mc ≤ R.cells ∧ slots + ms ≤ R.slots)
    (isC isR : List Nat) (hC : isC.map (fun i => ws[i]?) = wc.map some) (hRs : isR.all (fun i => decide (i < ws.length)) = true) (hnr : va_nd isR = true) (hdis : ∀ i ∈ isR, i ∉ isC) (hnc : va_nd isC = true)
    (hdg : decode b pc = .ok (.invokespecial idx, 3))
    (kk : ∀ (ad : Nat → Nat) (H1 : Heap) (locs1 : List Loc), Wd G A s.heap H1 locs1 ((isR.filterMap fun i => ws[i]?) ++ wc' ad) → W p l e R s m args below meth c H1 locs1 (cells + mc) (slots + ms) Q (F0 m (pc + 3) ls rest)) : W p l e R s m args below meth c H locs cells slots Q (F0 m pc ls st0) := by
  obtain ⟨k1, k3, k4, k7, k5, k6⟩ := hc
  have hP1 := hW.1.sub (ws' := wc) isC (by
    have := congrArg (List.filterMap id) hC
    simpa [List.filterMap_map, Function.comp_def] using this)
  have hD1 := (hW.2.1.sub isC hnc hC).weaken (B := fun _ => True) (fun _ _ _ _ => trivial)
  have hF := va_free hW.2.1 hW.2.2.1 hW.2.2.2 isC hC
  have hrun : va_Run p l e R s m args below meth c H locs cells slots mc ms (F0 m pc ls st0) rest (Qn G wc' (va_A wc H.size) (Value.ref a :: As).toArray) (va_A wc H.size) := by
    refine va_runI (As := As) (rest := rest) C.1 (hM H.size) (cwI n C.1.2.2.2.2 (tt_sub (tt_code k4)) rfl rfl rfl (C.w k3) (C.w hl) (C.w k1) k7 ⟨k5.1, k5.2, k6⟩ hR) ⟨fun a' U g mk q => ?_, fun U hU hw => ?_⟩ rfl hn hls.1 hst (lv_room hrest) hdg hroom
    · obtain ⟨z0, z1, z2, z3, z4, z5⟩ := q
      exact ⟨z0, z1, z2, z3.blind g mk a', z4, va_AO.moved (u := U) (U := U.calling g mk a') (Vm.Alike.refl U.vm) z5⟩
    · exact ⟨rfl, by rw [hU], by rw [hU]; exact hP1, hE.warm hw (by rw [hU]; exact hW.2.2.1) hF, hD1, va_AO.moved hw.alike hX⟩
  intro T hT X
  obtain ⟨v, st₀, t, T', L, h0, X', hL, e1, e2, ⟨⟨ad, hv, hp1, hd1⟩, hz, hk⟩, st⟩ := hrun T hT X
  cases hv
  rw [h0] at hz hk
  have hj := va_join (H1 := t.heap) hW.1 hW.2.1 isC isR hC (wd_rest hRs) hnr hdis (fun q h1 h2 => hk q h1 h2) hF hp1 hd1
  obtain ⟨t2, a1, b1⟩ := kk ad T'.heap (locs ++ L) (by
    refine ⟨by rw [e1]; exact hj.1, hj.2, ⟨Nat.le_trans hW.2.2.1.1 (by rw [e1]; exact hz), fun q h1 h2 => ?_, fun q hq => ?_⟩, hW.2.2.2⟩
    · rw [e1, hk q (Nat.lt_of_lt_of_le h1 hW.2.2.1.1) (fun z => h2 (hF q z))]
      exact hW.2.2.1.2.1 q h1 h2
    · rcases List.mem_append.mp hq with h | h
      · exact hW.2.2.1.2.2 q h
      · exact hF _ (hL q h)) T' rfl X'
  exact ⟨t2, st t2 a1, b1⟩
end XN

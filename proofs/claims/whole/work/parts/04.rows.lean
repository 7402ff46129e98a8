/-! my own short rows over the kit's: one world of cells, one environment, one contract form -/
abbrev Gl : Type := va_G × (ClassId × ClassId × ClassId × ClassId × ClassId)
/-- the classes of arrays: int, long, boolean, byte, of lands -/
def gT (G : Gl) : List (ClassId × FieldType) := [(G.2.1, .int), (G.2.2.1, .long), (G.2.2.2.1, .boolean), (G.2.2.2.2.1, .byte), (G.2.2.2.2.2, .object "LentAir$Land")]
def nk1 : Cond := .methodLinkNest "LentAir$Land" 92 ⟨"LentAir", "hasCell", "(JI)Z"⟩ "LentAir"
def nk2 : Cond := .methodLinkNest "LentAir$Sound" 96 ⟨"LentAir", "hasCell", "(JI)Z"⟩ "LentAir"
/-- the environment: what does not change from the law's entry on -/
def KK (G : Gl) (U : State) : Prop := va_K G.1 classes (gT G) U ∧ va_Nw nk1 U ∧ va_Nw nk2 U
theorem KK.blind {G : Gl} {U : State} (h : KK G U) (g : JFrame) (mk : MethodId) (a : Array Value) : KK G (U.calling g mk a) := ⟨va_K.moved (u := U) (U := U.calling g mk a) (Vm.Alike.refl U.vm) h.1, va_Nw.same rfl (u := U) (U := U.calling g mk a) rfl h.2.1, va_Nw.same rfl (u := U) (U := U.calling g mk a) rfl h.2.2⟩
theorem KK.warm {G : Gl} {s U : State} (hW : s.WarmedH U.vm) (h : KK G s) : KK G U := ⟨va_K.moved hW.alike h.1, va_Nw.warmM hW h.2.1, va_Nw.warmM hW h.2.2⟩
/-- the cells of the world stand in the heap; nothing else has changed since H0 -/
def Wd (G : Gl) (A : Nat → Prop) (H0 H : Heap) (locs : List Loc) (ws : va_W) : Prop := va_P G.1 classes ws H ∧ va_D A ws ∧ va_S A H0 H locs ∧ ∀ q, H0.size ≤ q → A q
def Qx (G : Gl) (rv : Option Value) (ws' : va_W) (A : Nat → Prop) : Array Value → State → Outcome → State → Prop := fun _ st oc t => (oc = .returned rv ∧ va_P G.1 classes ws' t.heap ∧ va_D A ws') ∧ va_F A st t
/-- the contract of a method that makes nothing: from the world ws, with these arguments, it returns rv and leaves the world ws' -/
def Ct (l : Launch) (y : MethodName) (b : ByteArray) (nL : Nat) (ret : Option FieldType) (fr lo : Nat) (G : Gl) (av : List Value) (ws : va_W) (rv : Option Value) (ws' : va_W) : Prop :=
  ∀ sz : Nat, Met l y (Cond.code y b nL ret :: TT) { frames := fr, cells := 0, slots := 0, locals := lo } (va_Pc av (fun U => U.heap.size = sz ∧ va_P G.1 classes ws U.heap ∧ KK G U ∧ va_D (fun _ => True) ws)) (Qx G rv ws' (va_A ws sz)) 0 0 (va_A ws sz)
/-- where a method stands -/
def Cx (p : Program) (s : State) (args : Array Value) (m : MethodId) (c : Code) (meth : Method) (own : String) (y : MethodName) (b : ByteArray) (nL : Nat) (ret : Option FieldType) : Prop :=
  CallFix p m c b nL s args (Cond.code y b nL ret :: TT) own ∧ meth.sig.returnType = ret ∧ meth.locks = false
theorem Ct.mk {l : Launch} {y : MethodName} {b : ByteArray} {nL : Nat} {ret : Option FieldType} {fr lo : Nat} {G : Gl} {av : List Value} {ws : va_W} {rv : Option Value} {ws' : va_W} (hy : plainName y.cls = true) (hn : (lg_sl av).length ≤ nL)
    (body : ∀ (p : Program) (e : Env) (s : State) (m : MethodId) (args : Array Value) (below : List Frame) (meth : Method) (c : Code) (ls : Array Slot) (A : Nat → Prop), Cx p s args m c meth y.cls y b nL ret → KK G s → Wd G A s.heap s.heap [] ws → lv_has ls nL (lv_args 0 av) → W p l e { frames := fr, cells := 0, slots := 0, locals := lo } s m args below meth c s.heap [] 0 0 (MQ below (Qx G rv ws' A) args s 0 0 A) (F0 m 0 ls [])) : Ct l y b nL ret fr lo G av ws rv ws' := by
  intro sz
  refine Met.ofW (cc := b) (maxL := nL) (ret := ret) hy rfl ?_
  intro p e s m args below meth c s₁ B hml hv
  obtain ⟨rfl, hsz, hP, hE, hD0⟩ := hv
  subst hsz
  have hl := lv_entry av (n := nL) hn
  rw [lg_entry_eq]
  exact body p e s m av.toArray below meth c _ _ ⟨⟨B.exec, B.bytes, hml, findClass_of_methodNamed B.named, atoms_spec B.pre⟩, B.returns, B.notSynchronized⟩ hE ⟨hP, hD0.self, va_S.rf, fun q h => Or.inr h⟩ hl
section X1
variable {p : Program} {l : Launch} {e : Env} {R : Room} {s : State} {m : MethodId} {args : Array Value} {below : List Frame} {meth : Method} {c : Code} {H : Heap} {locs : List Loc} {cells slots : Nat} {Q : State → Prop}
  {own : String} {y : MethodName} {b : ByteArray} {nL : Nat} {ret : Option FieldType} {G : Gl} {A : Nat → Prop} {H0 : Heap} {ws ws' : va_W} {pc : Nat} {ls : Array Slot} {rest : List Value} {a : Nat}
theorem Cx.w {w : Cond} (C : Cx p s args m c meth own y b nL ret) (h : w ∈ TT) : w.before args s = true := C.1.2.2.2.2 w (List.mem_cons_of_mem _ h)
/-- a place of a class file that links a field -/
def FL (own : String) (idx ci k : Nat) : Prop := ∃ (C : String) (T : u_T) (N : Nat), classes[ci]? = some (C, T, N) ∧ k < N ∧ (∀ w ∈ u_ws C T N, w ∈ TT) ∧ Cond.fieldLink own idx (T k).1 (T k).2.1 (T k).2.2.1 ∈ TT
def FP (own : String) (idx ci k : Nat) (ty : FieldType) : Prop := ∃ (C : String) (T : u_T) (N : Nat) (ty0 : Nat → FieldType), classes[ci]? = some (C, T, N) ∧ k < N ∧ (∀ w ∈ u_ws C T N, w ∈ TT) ∧ Cond.fieldLink own idx (T k).1 (T k).2.1 (T k).2.2.1 ∈ TT ∧ (∀ k, k < N → parseFieldDescriptor (T k).2.2.1 = some (ty0 k)) ∧ (∀ a, a < N → ∀ b, b < N → a ≠ b → (T a).2.1 ≠ (T b).2.1) ∧ (T k).2.2.2 = false ∧ parseFieldDescriptor (T k).2.2.1 = some ty
theorem x_get {idx ci k : Nat} (C : Cx p s args m c meth own y b nL ret) (hE : KK G s) (hW : Wd G A H0 H locs ws) (hf : FL own idx ci k) (q0 : Nat) {fs : List Value} (he : ws[q0]? = some (a, .inr (ci, fs))) {v : Value} (hv : fs[k]? = some v) (hdg : decode b pc = .ok (.getfield idx, 3))
    (kk : W p l e R s m args below meth c H locs cells slots Q (F0 m (pc + 3) ls (v :: rest))) : W p l e R s m args below meth c H locs cells slots Q (F0 m pc ls (.ref a :: rest)) := by
  obtain ⟨K, T, N, hc, hk, hin, hl⟩ := hf
  exact va_get (ref := (T k).1) C.1.1 C.1.2.1 (fun w h => C.w h) hin C.1.2.2.2.1 hE.1 hW.1 q0 he hc k hk (C.w hl) (fun _ h => h) hv hdg kk
theorem x_put {idx ci k : Nat} {ty : FieldType} (C : Cx p s args m c meth own y b nL ret) (hE : KK G s) (hW : Wd G A H0 H locs ws) (hf : FP own idx ci k ty) (q0 : Nat) {fs : List Value} (he : ws[q0]? = some (a, .inr (ci, fs))) {v : Value} (hn : narrow ty v = v) (hfit : fits ty v = true) (hlen : k < fs.length) (hws : ws.set q0 (a, .inr (ci, fs.set k v)) = ws') (hdg : decode b pc = .ok (.putfield idx, 3))
    (kk : ∀ (H1 : Heap) (locs1 : List Loc), Wd G A H0 H1 locs1 ws' → W p l e R s m args below meth c H1 locs1 cells slots Q (F0 m (pc + 3) ls rest)) : W p l e R s m args below meth c H locs cells slots Q (F0 m pc ls (v :: .ref a :: rest)) := by
  obtain ⟨K, T, N, ty0, hc, hk, hin, hl, h1, h2, h3, h4⟩ := hf
  subst hws
  exact va_put (ref := (T k).1) C.1.1 C.1.2.1 (fun w h => C.w h) hin ty0 h1 h2 C.1.2.2.2.1 hE.1 hW.1 hW.2.1 hW.2.2.1 q0 he hc k hk (C.w hl) (fun _ h => h) h3 h4 hn hfit hlen hdg (fun H1 L1 a1 a2 a3 => kk H1 L1 ⟨a1, a2, a3, hW.2.2.2⟩)
theorem x_iald (C : Cx p s args m c meth own y b nL ret) (hE : KK G s) (hW : Wd G A H0 H locs ws) (q0 : Nat) {n : Nat} {f : Nat → Int32} (ha : ws[q0]? = some (a, .inl (G.2.1, n, .inl f))) {i : Int32} (hin : vp_in i n) (hdg : decode b pc = .ok (.iaload, 1))
    (kk : W p l e R s m args below meth c H locs cells slots Q (F0 m (pc + 1) ls (.int (f i.toNatClampNeg) :: rest))) : W p l e R s m args below meth c H locs cells slots Q (F0 m pc ls (.int i :: .ref a :: rest)) :=
  va_iald C.1.1 C.1.2.1 hE.1 hW.1 q0 0 ha rfl hin hdg kk
theorem x_lald (C : Cx p s args m c meth own y b nL ret) (hE : KK G s) (hW : Wd G A H0 H locs ws) (q0 : Nat) {n : Nat} {f : Nat → Int64} (ha : ws[q0]? = some (a, .inl (G.2.2.1, n, .inr (.inl f)))) {i : Int32} (hin : vp_in i n) (hdg : decode b pc = .ok (.laload, 1))
    (kk : W p l e R s m args below meth c H locs cells slots Q (F0 m (pc + 1) ls (.long (f i.toNatClampNeg) :: rest))) : W p l e R s m args below meth c H locs cells slots Q (F0 m pc ls (.int i :: .ref a :: rest)) :=
  va_lald C.1.1 C.1.2.1 hE.1 hW.1 q0 1 ha rfl hin hdg kk
theorem x_zald (C : Cx p s args m c meth own y b nL ret) (hE : KK G s) (hW : Wd G A H0 H locs ws) (q0 : Nat) {n : Nat} {f : Nat → Int32} (ha : ws[q0]? = some (a, .inl (G.2.2.2.1, n, .inl f))) {i : Int32} (hin : vp_in i n) (hdg : decode b pc = .ok (.baload, 1))
    (kk : W p l e R s m args below meth c H locs cells slots Q (F0 m (pc + 1) ls (.int (f i.toNatClampNeg) :: rest))) : W p l e R s m args below meth c H locs cells slots Q (F0 m pc ls (.int i :: .ref a :: rest)) :=
  va_zald C.1.1 C.1.2.1 hE.1 hW.1 q0 2 ha rfl hin hdg kk
theorem x_bald (C : Cx p s args m c meth own y b nL ret) (hE : KK G s) (hW : Wd G A H0 H locs ws) (q0 : Nat) {n : Nat} {f : Nat → Int32} (ha : ws[q0]? = some (a, .inl (G.2.2.2.2.1, n, .inl f))) {i : Int32} (hin : vp_in i n) (hdg : decode b pc = .ok (.baload, 1))
    (kk : W p l e R s m args below meth c H locs cells slots Q (F0 m (pc + 1) ls (.int (f i.toNatClampNeg) :: rest))) : W p l e R s m args below meth c H locs cells slots Q (F0 m pc ls (.int i :: .ref a :: rest)) :=
  va_bald C.1.1 C.1.2.1 hE.1 hW.1 q0 3 ha rfl hin hdg kk
theorem x_aald (C : Cx p s args m c meth own y b nL ret) (hE : KK G s) (hW : Wd G A H0 H locs ws) (q0 : Nat) {n : Nat} {f : Nat → Option Nat} (ha : ws[q0]? = some (a, .inl (G.2.2.2.2.2, n, .inr (.inr (.inr (.inr f)))))) {i : Int32} (hin : vp_in i n) {v : Value} (hv : va_rf (f i.toNatClampNeg) = v) (hdg : decode b pc = .ok (.aaload, 1))
    (kk : W p l e R s m args below meth c H locs cells slots Q (F0 m (pc + 1) ls (v :: rest))) : W p l e R s m args below meth c H locs cells slots Q (F0 m pc ls (.int i :: .ref a :: rest)) := by
  subst hv
  exact va_aldq C.1.1 C.1.2.1 hE.1 hW.1 q0 4 ha rfl hin hdg kk
theorem x_iast (C : Cx p s args m c meth own y b nL ret) (hE : KK G s) (hW : Wd G A H0 H locs ws) (q0 : Nat) {n : Nat} {f : Nat → Int32} (ha : ws[q0]? = some (a, .inl (G.2.1, n, .inl f))) {i x : Int32} (hin : vp_in i n) (hws : ws.set q0 (a, .inl (G.2.1, n, .inl (upd f i.toNatClampNeg x))) = ws') (hdg : decode b pc = .ok (.iastore, 1))
    (kk : ∀ (H1 : Heap) (locs1 : List Loc), Wd G A H0 H1 locs1 ws' → W p l e R s m args below meth c H1 locs1 cells slots Q (F0 m (pc + 1) ls rest)) : W p l e R s m args below meth c H locs cells slots Q (F0 m pc ls (.int x :: .int i :: .ref a :: rest)) := by
  subst hws
  exact va_iast C.1.1 C.1.2.1 hE.1 hW.1 hW.2.1 hW.2.2.1 q0 0 ha rfl hin hdg (fun H1 L1 a1 a2 a3 => kk H1 L1 ⟨a1, a2, a3, hW.2.2.2⟩)
theorem x_last (C : Cx p s args m c meth own y b nL ret) (hE : KK G s) (hW : Wd G A H0 H locs ws) (q0 : Nat) {n : Nat} {f : Nat → Int64} (ha : ws[q0]? = some (a, .inl (G.2.2.1, n, .inr (.inl f)))) {i : Int32} {x : Int64} (hin : vp_in i n) (hws : ws.set q0 (a, .inl (G.2.2.1, n, .inr (.inl (vp_updL f i.toNatClampNeg x)))) = ws') (hdg : decode b pc = .ok (.lastore, 1))
    (kk : ∀ (H1 : Heap) (locs1 : List Loc), Wd G A H0 H1 locs1 ws' → W p l e R s m args below meth c H1 locs1 cells slots Q (F0 m (pc + 1) ls rest)) : W p l e R s m args below meth c H locs cells slots Q (F0 m pc ls (.long x :: .int i :: .ref a :: rest)) := by
  subst hws
  exact va_last C.1.1 C.1.2.1 hE.1 hW.1 hW.2.1 hW.2.2.1 q0 1 ha rfl hin hdg (fun H1 L1 a1 a2 a3 => kk H1 L1 ⟨a1, a2, a3, hW.2.2.2⟩)
theorem x_zast (C : Cx p s args m c meth own y b nL ret) (hE : KK G s) (hW : Wd G A H0 H locs ws) (q0 : Nat) {n : Nat} {f : Nat → Int32} (ha : ws[q0]? = some (a, .inl (G.2.2.2.1, n, .inl f))) {i x x' : Int32} (hin : vp_in i n) (hx : vp_nar .boolean x = x') (hws : ws.set q0 (a, .inl (G.2.2.2.1, n, .inl (upd f i.toNatClampNeg x'))) = ws') (hdg : decode b pc = .ok (.bastore, 1))
    (kk : ∀ (H1 : Heap) (locs1 : List Loc), Wd G A H0 H1 locs1 ws' → W p l e R s m args below meth c H1 locs1 cells slots Q (F0 m (pc + 1) ls rest)) : W p l e R s m args below meth c H locs cells slots Q (F0 m pc ls (.int x :: .int i :: .ref a :: rest)) := by
  subst hx
  subst hws
  exact va_zast C.1.1 C.1.2.1 hE.1 hW.1 hW.2.1 hW.2.2.1 q0 2 ha rfl hin hdg (fun H1 L1 a1 a2 a3 => kk H1 L1 ⟨a1, a2, a3, hW.2.2.2⟩)
theorem x_bast (C : Cx p s args m c meth own y b nL ret) (hE : KK G s) (hW : Wd G A H0 H locs ws) (q0 : Nat) {n : Nat} {f : Nat → Int32} (ha : ws[q0]? = some (a, .inl (G.2.2.2.2.1, n, .inl f))) {i x x' : Int32} (hin : vp_in i n) (hx : vp_nar .byte x = x') (hws : ws.set q0 (a, .inl (G.2.2.2.2.1, n, .inl (upd f i.toNatClampNeg x'))) = ws') (hdg : decode b pc = .ok (.bastore, 1))
    (kk : ∀ (H1 : Heap) (locs1 : List Loc), Wd G A H0 H1 locs1 ws' → W p l e R s m args below meth c H1 locs1 cells slots Q (F0 m (pc + 1) ls rest)) : W p l e R s m args below meth c H locs cells slots Q (F0 m pc ls (.int x :: .int i :: .ref a :: rest)) := by
  subst hx
  subst hws
  exact va_bast C.1.1 C.1.2.1 hE.1 hW.1 hW.2.1 hW.2.2.1 q0 3 ha rfl hin hdg (fun H1 L1 a1 a2 a3 => kk H1 L1 ⟨a1, a2, a3, hW.2.2.2⟩)
theorem x_alen (C : Cx p s args m c meth own y b nL ret) (hE : KK G s) (hW : Wd G A H0 H locs ws) (q0 t0 : Nat) {cA : ClassId} {x : vp_A} (ha : ws[q0]? = some (a, .inl (cA, x))) {ty : FieldType} (ht : (gT G)[t0]? = some (cA, ty)) {v : Int32} (hv : Int32.ofNat x.1 = v) (hdg : decode b pc = .ok (.arraylength, 1))
    (kk : W p l e R s m args below meth c H locs cells slots Q (F0 m (pc + 1) ls (.int v :: rest))) : W p l e R s m args below meth c H locs cells slots Q (F0 m pc ls (.ref a :: rest)) :=
  va_alen C.1.1 C.1.2.1 hE.1 hW.1 q0 t0 ha ht hv hdg kk
-- ends
theorem x_iret {rm : Room} {v : Int32} {rv : Option Value} {ws' : va_W} (C : Cx p s args m c meth own y b nL (some .int)) (hW : Wd G A s.heap H locs ws) (hv : some (Value.int v) = rv) (hws : ws = ws') (hdg : decode b pc = .ok (.ireturn, 1)) : W p l e rm s m args below meth c H locs 0 0 (MQ below (Qx G rv ws' A) args s 0 0 A) (F0 m pc ls [.int v]) := by
  subst hv; subst hws
  exact W.iret C.1.1 C.1.2.1 C.2.1 (fun t ht hw => ⟨⟨rfl, by rw [ht]; exact hW.1, hW.2.1⟩, hW.2.2.1.F ht⟩) hW.2.2.1.2.2 hdg C.2.2
theorem x_zret {rm : Room} {v : Int32} {rv : Option Value} {ws' : va_W} {ty : FieldType} (C : Cx p s args m c meth own y b nL (some ty)) (hW : Wd G A s.heap H locs ws) (hn : narrow ty (.int v) = .int v) (hv : some (Value.int v) = rv) (hws : ws = ws') (hdg : decode b pc = .ok (.ireturn, 1)) : W p l e rm s m args below meth c H locs 0 0 (MQ below (Qx G rv ws' A) args s 0 0 A) (F0 m pc ls [.int v]) := by
  subst hv; subst hws
  exact W.zret C.1.1 C.1.2.1 C.2.1 hn (fun t ht hw => ⟨⟨rfl, by rw [ht]; exact hW.1, hW.2.1⟩, hW.2.2.1.F ht⟩) hW.2.2.1.2.2 hdg C.2.2
theorem x_lret {rm : Room} {v : Int64} {rv : Option Value} {ws' : va_W} (C : Cx p s args m c meth own y b nL (some .long)) (hW : Wd G A s.heap H locs ws) (hv : some (Value.long v) = rv) (hws : ws = ws') (hdg : decode b pc = .ok (.lreturn, 1)) : W p l e rm s m args below meth c H locs 0 0 (MQ below (Qx G rv ws' A) args s 0 0 A) (F0 m pc ls [.long v]) := by
  subst hv; subst hws
  exact W.lret C.1.1 C.1.2.1 C.2.1 (fun t ht hw => ⟨⟨rfl, by rw [ht]; exact hW.1, hW.2.1⟩, hW.2.2.1.F ht⟩) hW.2.2.1.2.2 hdg C.2.2
theorem x_vret {rm : Room} {rv : Option Value} {ws' : va_W} (C : Cx p s args m c meth own y b nL none) (hW : Wd G A s.heap H locs ws) (hv : none = rv) (hws : ws = ws') (hdg : decode b pc = .ok (.return_, 1)) : W p l e rm s m args below meth c H locs 0 0 (MQ below (Qx G rv ws' A) args s 0 0 A) (F0 m pc ls []) := by
  subst hv; subst hws
  exact W.vret C.1.1 C.1.2.1 C.2.1 (fun t ht hw => ⟨⟨rfl, by rw [ht]; exact hW.1, hW.2.1⟩, hW.2.2.1.F ht⟩) hW.2.2.1.2.2 hdg C.2.2
-- calls
theorem x_run {av : Array Value} {rv : Option Value} {wc wc' wr : va_W} {st0 : List Value} (hr : va_Run p l e R s m args below meth c H locs cells slots 0 0 (F0 m pc ls st0) rest (Qx G rv wc' (va_A wc H.size) av) (va_A wc H.size)) (hW : Wd G A H0 H locs ws) (isC isR perm : List Nat) (hC : isC.map (fun i => ws[i]?) = wc.map some) (hR : isR.map (fun i => ws[i]?) = wr.map some) (hn : va_nd isR = true) (hdis : ∀ i ∈ isR, i ∉ isC)
    (hnp : va_nd perm = true) (hp : perm.map (fun i => (wr ++ wc')[i]?) = ws'.map some)
    (kk : ∀ (H1 : Heap) (locs1 : List Loc), Wd G A H0 H1 locs1 ws' → W p l e R s m args below meth c H1 locs1 cells slots Q (F0 m (pc + 3) ls (rv.toList ++ rest))) : W p l e R s m args below meth c H locs cells slots Q (F0 m pc ls st0) := by
  intro T hT X
  obtain ⟨v, st₀, t, T', L, h0, X', hL, e1, e2, ⟨⟨hv, hp1, hd1⟩, hz, hk⟩, st⟩ := hr T hT X
  cases hv
  rw [h0] at hz hk
  have hF := va_free hW.2.1 hW.2.2.1 hW.2.2.2 isC hC
  have hj := va_join (H1 := t.heap) hW.1 hW.2.1 isC isR hC hR hn hdis (fun q h1 h2 => hk q h1 h2) hF hp1 hd1
  have hP2 : va_P G.1 classes ws' t.heap := by
    intro k q hq
    have h1 : (perm.map (fun i => (wr ++ wc')[i]?))[k]? = some (some q) := by rw [hp, List.getElem?_map, hq]; rfl
    rw [List.getElem?_map] at h1
    cases hi : perm[k]? with
    | none => rw [hi] at h1; cases h1
    | some i => rw [hi] at h1; exact hj.1 i q (Option.some.inj h1)
  have hD2 : va_D A ws' := hj.2.sub perm hnp hp
  obtain ⟨t2, a1, b1⟩ := kk T'.heap (locs ++ L) (by
    refine ⟨by rw [e1]; exact hP2, hD2, ⟨Nat.le_trans hW.2.2.1.1 (by rw [e1]; exact hz), fun q h1 h2 => ?_, fun q hq => ?_⟩, hW.2.2.2⟩
    · rw [e1, hk q (Nat.lt_of_lt_of_le h1 hW.2.2.1.1) (fun z => h2 (hF q z))]
      exact hW.2.2.1.2.1 q h1 h2
    · rcases List.mem_append.mp hq with h | h
      · exact hW.2.2.1.2.2 q h
      · exact hF _ (hL q h)) T' rfl X'
  exact ⟨t2, st t2 a1, b1⟩
/-- what a call of an instance method needs of the tables -/
def CV (y : MethodName) (b : ByteArray) (nL : Nat) (ret : Option FieldType) (n : Nat) : Prop := Cond.instanceMethod y ∈ TT ∧ Cond.selects y.cls y y ∈ TT ∧ Cond.initialized y.cls ∈ TT ∧ Cond.code y b nL ret ∈ TT ∧ (y.cls ≠ "java/lang/invoke/MethodHandle" ∧ y.cls ≠ "java/lang/invoke/VarHandle") ∧ (parseMethodDescriptor y.desc).map (fun d => d.parameters.length) = some n
def CS (y : MethodName) (b : ByteArray) (nL : Nat) (ret : Option FieldType) (n : Nat) : Prop := Cond.static y ∈ TT ∧ Cond.initialized y.cls ∈ TT ∧ Cond.code y b nL ret ∈ TT ∧ (y.cls ≠ "java/lang/invoke/MethodHandle" ∧ y.cls ≠ "java/lang/invoke/VarHandle") ∧ (parseMethodDescriptor y.desc).map (fun d => d.parameters.length) = some n
theorem tt_sub {w0 : Cond} {ws : List Cond} (h : ∀ w ∈ ws, w ∈ TT) : GoodIn (w0 :: TT) ws := fun w hw => ⟨List.mem_cons_of_mem _ (h w hw), tt_good (h w hw)⟩
theorem tt_code {w : Cond} (h : w ∈ TT) : ∀ v ∈ w :: TT, v ∈ TT := fun v hv => by
  rcases List.mem_cons.mp hv with rfl | h1
  · exact h
  · exact h1
theorem x_callV {idx n fr lo nL1 ci q0 : Nat} {y1 : MethodName} {b1 : ByteArray} {ret1 : Option FieldType} {As : List Value} {rv : Option Value} {wc wc' wr : va_W} {st0 : List Value} {K : String} {T : u_T} {N : Nat} {fs : List Value} {lv' : List (Nat × Value)}
    (C : Cx p s args m c meth own y b nL ret) (hE : KK G s) (hW : Wd G A H0 H locs ws) (hM : Ct l y1 b1 nL1 ret1 fr lo G (.ref a :: As) wc rv wc') (hc : CV y1 b1 nL1 ret1 n) (hl : Cond.methodLink own idx y1 ∈ TT)
    (hls : lv_has ls nL lv') (hn : As.length = n) (hst : st0 = As.reverse ++ .ref a :: rest) (hrest : (rest.map fun v => v.category).sum ≤ 8)
    (hr : ws[q0]? = some (a, .inr (ci, fs))) (hci : classes[ci]? = some (K, T, N)) (hKc : y1.cls = K) (hR : fr + 1 ≤ R.frames ∧ 8 + (nL1 + 11) + lo ≤ R.locals) (hroom : cells ≤ R.cells ∧ slots ≤ R.slots)
    (isC isR perm : List Nat) (hC : isC.map (fun i => ws[i]?) = wc.map some) (hRs : isR.map (fun i => ws[i]?) = wr.map some) (hnr : va_nd isR = true) (hdis : ∀ i ∈ isR, i ∉ isC) (hnp : va_nd perm = true) (hp : perm.map (fun i => (wr ++ wc')[i]?) = ws'.map some) (hnc : va_nd isC = true)
    (hdg : decode b pc = .ok (.invokevirtual idx, 3))
    (kk : ∀ (H1 : Heap) (locs1 : List Loc), Wd G A H0 H1 locs1 ws' → W p l e R s m args below meth c H1 locs1 cells slots Q (F0 m (pc + 3) ls (rv.toList ++ rest))) : W p l e R s m args below meth c H locs cells slots Q (F0 m pc ls st0) := by
  subst hKc
  obtain ⟨k1, k2, k3, k4, k5, k6⟩ := hc
  have hP1 := hW.1.sub (ws' := wc) isC (by
    have := congrArg (List.filterMap id) hC
    simpa [List.filterMap_map, Function.comp_def] using this)
  have hD1 := (hW.2.1.sub isC hnc hC).weaken (B := fun _ => True) (fun _ _ _ _ => trivial)
  refine x_run (av := (Value.ref a :: As).toArray) (va_runV (As := As) (rest := rest) C.1 (hM H.size) (cwV n C.1.2.2.2.2 (tt_sub (fun w hw => ?_)) rfl rfl rfl ⟨rfl, k5.1, k5.2, k6⟩ hR) ⟨fun a' U g mk q => ?_, va_recv hE.1 hW.1 hci hr, fun U hU hw => ?_⟩ rfl hn hls.1 hst (lv_room hrest) hdg ⟨hroom.1, hroom.2⟩) hW isC isR perm hC hRs hnr hdis hnp hp kk
  · rcases List.mem_append.mp hw with h | h
    · simp only [List.mem_cons, List.not_mem_nil, or_false] at h
      rcases h with rfl | rfl | rfl | rfl
      · exact hl
      · exact k1
      · exact k2
      · exact k3
    · exact tt_code k4 w h
  · obtain ⟨z0, z1, z2, z3, z4⟩ := q
    exact ⟨z0, z1, z2, z3.blind g mk a', z4⟩
  · exact ⟨rfl, by rw [hU], by rw [hU]; exact hP1, hE.warm hw, hD1⟩
theorem x_callS {lv' : List (Nat × Value)} {idx n fr lo nL1 : Nat} {y1 : MethodName} {b1 : ByteArray} {ret1 : Option FieldType} {As : List Value} {rv : Option Value} {wc wc' wr : va_W} {st0 : List Value}
    (C : Cx p s args m c meth own y b nL ret) (hE : KK G s) (hW : Wd G A H0 H locs ws) (hM : Ct l y1 b1 nL1 ret1 fr lo G As wc rv wc') (hc : CS y1 b1 nL1 ret1 n) (hl : Cond.methodLink own idx y1 ∈ TT)
    (hls : lv_has ls nL lv') (hn : As.length = n) (hst : st0 = As.reverse ++ rest) (hrest : (rest.map fun v => v.category).sum ≤ 8)
    (hR : fr + 1 ≤ R.frames ∧ 8 + (nL1 + 11) + lo ≤ R.locals) (hroom : cells ≤ R.cells ∧ slots ≤ R.slots)
    (isC isR perm : List Nat) (hC : isC.map (fun i => ws[i]?) = wc.map some) (hRs : isR.map (fun i => ws[i]?) = wr.map some) (hnr : va_nd isR = true) (hdis : ∀ i ∈ isR, i ∉ isC) (hnp : va_nd perm = true) (hp : perm.map (fun i => (wr ++ wc')[i]?) = ws'.map some) (hnc : va_nd isC = true)
    (hdg : decode b pc = .ok (.invokestatic idx, 3))
    (kk : ∀ (H1 : Heap) (locs1 : List Loc), Wd G A H0 H1 locs1 ws' → W p l e R s m args below meth c H1 locs1 cells slots Q (F0 m (pc + 3) ls (rv.toList ++ rest))) : W p l e R s m args below meth c H locs cells slots Q (F0 m pc ls st0) := by
  obtain ⟨k1, k3, k4, k5, k6⟩ := hc
  have hP1 := hW.1.sub (ws' := wc) isC (by
    have := congrArg (List.filterMap id) hC
    simpa [List.filterMap_map, Function.comp_def] using this)
  have hD1 := (hW.2.1.sub isC hnc hC).weaken (B := fun _ => True) (fun _ _ _ _ => trivial)
  refine x_run (av := As.toArray) (va_runS (As := As) (rest := rest) C.1 (hM H.size) (va_cwS n C.1.2.2.2.2 (tt_sub (fun w hw => ?_)) rfl rfl rfl ⟨k5.1, k5.2, k6⟩ hR) ⟨fun a' U g mk q => ?_, fun U hU hw => ?_⟩ rfl hn hls.1 hst (lv_room hrest) hdg ⟨hroom.1, hroom.2⟩) hW isC isR perm hC hRs hnr hdis hnp hp kk
  · rcases List.mem_append.mp hw with h | h
    · simp only [List.mem_cons, List.not_mem_nil, or_false] at h
      rcases h with rfl | rfl | rfl
      · exact hl
      · exact k1
      · exact k3
    · exact tt_code k4 w h
  · obtain ⟨z0, z1, z2, z3, z4⟩ := q
    exact ⟨z0, z1, z2, z3.blind g mk a', z4⟩
  · exact ⟨rfl, by rw [hU], by rw [hU]; exact hP1, hE.warm hw, hD1⟩
end X1

/-! my own short rows over the kit's: one world of cells, one environment, one contract form -/
abbrev Gl : Type := va_G × (ClassId × ClassId × ClassId × ClassId × ClassId) × (Nat → Nat) × (Nat → Nat)
abbrev gI (G : Gl) : ClassId := G.2.1.1
abbrev gJ (G : Gl) : ClassId := G.2.1.2.1
abbrev gZ (G : Gl) : ClassId := G.2.1.2.2.1
abbrev gB (G : Gl) : ClassId := G.2.1.2.2.2.1
abbrev gO (G : Gl) : ClassId := G.2.1.2.2.2.2
abbrev gK (G : Gl) : Nat → Nat := G.2.2.1
abbrev gV (G : Gl) : Nat → Nat := G.2.2.2
/-- the classes of arrays: int, long, boolean, byte, of lands -/
def gT (G : Gl) : List (ClassId × FieldType) := [(gI G, .int), (gJ G, .long), (gZ G, .boolean), (gB G, .byte), (gO G, .object "LentAir$Land")]
def nk1 : Cond := .methodLinkNest "LentAir$Land" 92 ⟨"LentAir", "hasCell", "(JI)Z"⟩ "LentAir"
def nk2 : Cond := .methodLinkNest "LentAir$Sound" 96 ⟨"LentAir", "hasCell", "(JI)Z"⟩ "LentAir"
/-- the text's words as the machine's own constants -/
def KR (G : Gl) (U : State) : Prop := vk_R "LentAir$Reader" 132 "valley" (gK G 0) U ∧ vk_R "LentAir$Reader" 134 "ground" (gK G 1) U ∧ vk_R "LentAir$Reader" 136 "air" (gK G 2) U ∧ vk_R "LentAir$Reader" 138 "fee" (gK G 3) U ∧ vk_R "LentAir$Reader" 140 "maker" (gK G 4) U ∧ vk_R "LentAir$Reader" 142 "leave" (gK G 5) U
def KS (G : Gl) (A : Nat → Prop) (U : State) (H : Heap) : Prop := vk_S 6 sLen sByt (gK G) (gV G) A U H ∧ va_Z "java/lang/String" "COMPACT_STRINGS" "Z" (.int 1) A U H ∧ va_Zq "jdk/internal/util/Preconditions" "SIOOBE_FORMATTER" "Ljava/util/function/BiFunction;" A U H
/-- the environment: what does not change from the law's entry on -/
def KK (G : Gl) (A : Nat → Prop) (U : State) : Prop := va_K G.1 classes (gT G) U ∧ va_Nw nk1 U ∧ va_Nw nk2 U ∧ KR G U ∧ KS G A U U.heap
theorem KR.same {G : Gl} {u U : State} (hv : U.vm = u.vm) (h : KR G u) : KR G U := ⟨h.1.same hv, h.2.1.same hv, h.2.2.1.same hv, h.2.2.2.1.same hv, h.2.2.2.2.1.same hv, h.2.2.2.2.2.same hv⟩
theorem KR.warm {G : Gl} {s U : State} (hW : s.WarmedH U.vm) (h : KR G s) : KR G U := ⟨h.1.warm hW, h.2.1.warm hW, h.2.2.1.warm hW, h.2.2.2.1.warm hW, h.2.2.2.2.1.warm hW, h.2.2.2.2.2.warm hW⟩
theorem KS.moved {G : Gl} {A : Nat → Prop} {u U : State} {H : Heap} (hvm : u.vm.Alike U.vm) (h : KS G A u H) : KS G A U H := ⟨h.1.moved hvm, h.2.1.moved hvm, h.2.2.moved hvm⟩
theorem KS.kept {G : Gl} {A : Nat → Prop} {U : State} {H H1 : Heap} (h : KS G A U H) (hq : ∀ a : Nat, a < H.size → ¬ A a → H1[a]? = H[a]?) : KS G A U H1 := ⟨h.1.kept hq, h.2.1.kept hq, h.2.2.kept hq⟩
theorem KS.narrow {G : Gl} {A B : Nat → Prop} {U : State} {H : Heap} (h : KS G A U H) (hAB : ∀ q, B q → A q) : KS G B U H := ⟨h.1.narrow hAB, h.2.1.narrow hAB, h.2.2.narrow hAB⟩
theorem KK.blind {G : Gl} {A : Nat → Prop} {U : State} (h : KK G A U) (g : JFrame) (mk : MethodId) (a : Array Value) : KK G A (U.calling g mk a) := ⟨va_K.moved (u := U) (U := U.calling g mk a) (Vm.Alike.refl U.vm) h.1, va_Nw.same rfl (u := U) (U := U.calling g mk a) rfl h.2.1, va_Nw.same rfl (u := U) (U := U.calling g mk a) rfl h.2.2.1, KR.same (u := U) (U := U.calling g mk a) rfl h.2.2.2.1, KS.moved (u := U) (U := U.calling g mk a) (Vm.Alike.refl U.vm) h.2.2.2.2⟩
/-- at a call: the heap has gone on within A, the callee writes within B -/
theorem KK.warm {G : Gl} {A B : Nat → Prop} {s U : State} {locs : List Loc} (hW : s.WarmedH U.vm) (hS : va_S A s.heap U.heap locs) (hAB : ∀ q, B q → A q) (h : KK G A s) : KK G B U := ⟨va_K.moved hW.alike h.1, va_Nw.warmM hW h.2.1, va_Nw.warmM hW h.2.2.1, h.2.2.2.1.warm hW, ((h.2.2.2.2.kept hS.2.1).narrow hAB).moved hW.alike⟩
/-- the cells of the world stand in the heap; nothing else has changed since H0 -/
def Wd (G : Gl) (A : Nat → Prop) (H0 H : Heap) (locs : List Loc) (ws : va_W) : Prop := va_P G.1 classes ws H ∧ va_D A ws ∧ va_S A H0 H locs ∧ ∀ q, H0.size ≤ q → A q
def Qx (G : Gl) (rv : Option Value) (ws' : va_W) (A : Nat → Prop) : Array Value → State → Outcome → State → Prop := fun _ st oc t => (oc = .returned rv ∧ va_P G.1 classes ws' t.heap ∧ va_D A ws') ∧ va_F A st t
/-- the contract of a method that makes nothing: from the world ws, with these arguments, it returns rv and leaves the world ws' -/
def RM (fr lo : Nat) : Room := { frames := fr, cells := 0, slots := 0, locals := lo }
def Ct (l : Launch) (y : MethodName) (b : ByteArray) (nL : Nat) (ret : Option FieldType) (fr lo : Nat) (G : Gl) (av : List Value) (ws : va_W) (rv : Option Value) (ws' : va_W) : Prop :=
  ∀ sz : Nat, Met l y (Cond.code y b nL ret :: TT) (RM fr lo) (va_Pc av (fun U => U.heap.size = sz ∧ va_P G.1 classes ws U.heap ∧ KK G (va_A ws sz) U ∧ va_D (fun _ => True) ws)) (Qx G rv ws' (va_A ws sz)) 0 0 (va_A ws sz)
/-- where a method stands -/
def Cx (p : Program) (s : State) (args : Array Value) (m : MethodId) (c : Code) (meth : Method) (own : String) (y : MethodName) (b : ByteArray) (nL : Nat) (ret : Option FieldType) : Prop :=
  CallFix p m c b nL s args (Cond.code y b nL ret :: TT) own ∧ meth.sig.returnType = ret ∧ meth.locks = false
theorem Ct.mk {l : Launch} {y : MethodName} {b : ByteArray} {nL : Nat} {ret : Option FieldType} {fr lo : Nat} {G : Gl} {av : List Value} {ws : va_W} {rv : Option Value} {ws' : va_W} (hy : plainName y.cls = true) (hn : (lg_sl av).length ≤ nL)
    (body : ∀ (p : Program) (e : Env) (s : State) (m : MethodId) (args : Array Value) (below : List Frame) (meth : Method) (c : Code) (ls : Array Slot) (A : Nat → Prop) (Q : State → Prop), Cx p s args m c meth y.cls y b nL ret → KK G A s → Wd G A s.heap s.heap [] ws → lv_has ls nL (lv_args 0 av) → Q = MQ below (Qx G rv ws' A) args s 0 0 A → W p l e (RM fr lo) s m args below meth c s.heap [] 0 0 Q (F0 m 0 ls [])) : Ct l y b nL ret fr lo G av ws rv ws' := by
  intro sz
  refine Met.ofW (cc := b) (maxL := nL) (ret := ret) hy rfl ?_
  intro p e s m args below meth c s₁ B hml hv
  obtain ⟨rfl, hsz, hP, hE, hD0⟩ := hv
  subst hsz
  have hl := lv_entry av (n := nL) hn
  rw [lg_entry_eq]
  exact body p e s m av.toArray below meth c _ _ _ ⟨⟨B.exec, B.bytes, hml, findClass_of_methodNamed B.named, atoms_spec B.pre⟩, B.returns, B.notSynchronized⟩ hE ⟨hP, hD0.self, va_S.rf, fun q h => Or.inr h⟩ hl rfl
section X1
variable {p : Program} {l : Launch} {e : Env} {R : Room} {s : State} {m : MethodId} {args : Array Value} {below : List Frame} {meth : Method} {c : Code} {H : Heap} {locs : List Loc} {cells slots : Nat} {Q : State → Prop}
  {own : String} {y : MethodName} {b : ByteArray} {nL : Nat} {ret : Option FieldType} {G : Gl} {A : Nat → Prop} {H0 : Heap} {ws ws' : va_W} {pc : Nat} {ls : Array Slot} {rest : List Value} {a : Nat} {lv' : List (Nat × Value)}
theorem Cx.w {w : Cond} (C : Cx p s args m c meth own y b nL ret) (h : w ∈ TT) : w.before args s = true := C.1.2.2.2.2 w (List.mem_cons_of_mem _ h)
/-- a place of a class file that links a field -/
def FL (own : String) (idx ci k : Nat) : Prop := ∃ (C : String) (T : u_T) (N : Nat), classes[ci]? = some (C, T, N) ∧ k < N ∧ (∀ w ∈ u_ws C T N, w ∈ TT) ∧ Cond.fieldLink own idx (T k).1 (T k).2.1 (T k).2.2.1 ∈ TT
def FP (own : String) (idx ci k : Nat) (ty : FieldType) : Prop := ∃ (C : String) (T : u_T) (N : Nat) (ty0 : Nat → FieldType), classes[ci]? = some (C, T, N) ∧ k < N ∧ (∀ w ∈ u_ws C T N, w ∈ TT) ∧ Cond.fieldLink own idx (T k).1 (T k).2.1 (T k).2.2.1 ∈ TT ∧ (∀ k, k < N → parseFieldDescriptor (T k).2.2.1 = some (ty0 k)) ∧ (∀ a, a < N → ∀ b, b < N → a ≠ b → (T a).2.1 ≠ (T b).2.1) ∧ (T k).2.2.2 = false ∧ parseFieldDescriptor (T k).2.2.1 = some ty
theorem x_get {idx ci k : Nat} (C : Cx p s args m c meth own y b nL ret) (hE : KK G A s) (hW : Wd G A H0 H locs ws) (hf : FL own idx ci k) (q0 : Nat) {fs : List Value} (he : ws[q0]? = some (a, .inr (ci, fs))) {v : Value} (hv : fs[k]? = some v) (hdg : decode b pc = .ok (.getfield idx, 3))
    (kk : W p l e R s m args below meth c H locs cells slots Q (F0 m (pc + 3) ls (v :: rest))) : W p l e R s m args below meth c H locs cells slots Q (F0 m pc ls (.ref a :: rest)) := by
  obtain ⟨K, T, N, hc, hk, hin, hl⟩ := hf
  exact va_get (ref := (T k).1) C.1.1 C.1.2.1 (fun w h => C.w h) hin C.1.2.2.2.1 hE.1 hW.1 q0 he hc k hk (C.w hl) (fun _ h => h) hv hdg kk
theorem x_put {idx ci k : Nat} {ty : FieldType} (C : Cx p s args m c meth own y b nL ret) (hE : KK G A s) (hW : Wd G A H0 H locs ws) (hf : FP own idx ci k ty) (q0 : Nat) {fs : List Value} (he : ws[q0]? = some (a, .inr (ci, fs))) {v : Value} (hn : narrow ty v = v) (hfit : fits ty v = true) (hlen : k < fs.length) (hws : ws.set q0 (a, .inr (ci, fs.set k v)) = ws') (hdg : decode b pc = .ok (.putfield idx, 3))
    (kk : ∀ (H1 : Heap) (locs1 : List Loc), Wd G A H0 H1 locs1 ws' → W p l e R s m args below meth c H1 locs1 cells slots Q (F0 m (pc + 3) ls rest)) : W p l e R s m args below meth c H locs cells slots Q (F0 m pc ls (v :: .ref a :: rest)) := by
  obtain ⟨K, T, N, ty0, hc, hk, hin, hl, h1, h2, h3, h4⟩ := hf
  subst hws
  exact va_put (ref := (T k).1) C.1.1 C.1.2.1 (fun w h => C.w h) hin ty0 h1 h2 C.1.2.2.2.1 hE.1 hW.1 hW.2.1 hW.2.2.1 q0 he hc k hk (C.w hl) (fun _ h => h) h3 h4 hn hfit hlen hdg (fun H1 L1 a1 a2 a3 => kk H1 L1 ⟨a1, a2, a3, hW.2.2.2⟩)
theorem x_iald (C : Cx p s args m c meth own y b nL ret) (hE : KK G A s) (hW : Wd G A H0 H locs ws) (q0 : Nat) {n : Nat} {f : Nat → Int32} (ha : ws[q0]? = some (a, .inl (gI G, n, .inl f))) {i : Int32} (hin : vp_in i n) (hdg : decode b pc = .ok (.iaload, 1))
    (kk : W p l e R s m args below meth c H locs cells slots Q (F0 m (pc + 1) ls (.int (f i.toNatClampNeg) :: rest))) : W p l e R s m args below meth c H locs cells slots Q (F0 m pc ls (.int i :: .ref a :: rest)) :=
  va_iald C.1.1 C.1.2.1 hE.1 hW.1 q0 0 ha rfl hin hdg kk
theorem x_lald (C : Cx p s args m c meth own y b nL ret) (hE : KK G A s) (hW : Wd G A H0 H locs ws) (q0 : Nat) {n : Nat} {f : Nat → Int64} (ha : ws[q0]? = some (a, .inl (gJ G, n, .inr (.inl f)))) {i : Int32} (hin : vp_in i n) (hdg : decode b pc = .ok (.laload, 1))
    (kk : W p l e R s m args below meth c H locs cells slots Q (F0 m (pc + 1) ls (.long (f i.toNatClampNeg) :: rest))) : W p l e R s m args below meth c H locs cells slots Q (F0 m pc ls (.int i :: .ref a :: rest)) :=
  va_lald C.1.1 C.1.2.1 hE.1 hW.1 q0 1 ha rfl hin hdg kk
theorem x_zald (C : Cx p s args m c meth own y b nL ret) (hE : KK G A s) (hW : Wd G A H0 H locs ws) (q0 : Nat) {n : Nat} {f : Nat → Int32} (ha : ws[q0]? = some (a, .inl (gZ G, n, .inl f))) {i : Int32} (hin : vp_in i n) (hdg : decode b pc = .ok (.baload, 1))
    (kk : W p l e R s m args below meth c H locs cells slots Q (F0 m (pc + 1) ls (.int (f i.toNatClampNeg) :: rest))) : W p l e R s m args below meth c H locs cells slots Q (F0 m pc ls (.int i :: .ref a :: rest)) :=
  va_zald C.1.1 C.1.2.1 hE.1 hW.1 q0 2 ha rfl hin hdg kk
theorem x_bald (C : Cx p s args m c meth own y b nL ret) (hE : KK G A s) (hW : Wd G A H0 H locs ws) (q0 : Nat) {n : Nat} {f : Nat → Int32} (ha : ws[q0]? = some (a, .inl (gB G, n, .inl f))) {i : Int32} (hin : vp_in i n) (hdg : decode b pc = .ok (.baload, 1))
    (kk : W p l e R s m args below meth c H locs cells slots Q (F0 m (pc + 1) ls (.int (f i.toNatClampNeg) :: rest))) : W p l e R s m args below meth c H locs cells slots Q (F0 m pc ls (.int i :: .ref a :: rest)) :=
  va_bald C.1.1 C.1.2.1 hE.1 hW.1 q0 3 ha rfl hin hdg kk
theorem x_aald (C : Cx p s args m c meth own y b nL ret) (hE : KK G A s) (hW : Wd G A H0 H locs ws) (q0 : Nat) {n : Nat} {f : Nat → Option Nat} (ha : ws[q0]? = some (a, .inl (gO G, n, .inr (.inr (.inr (.inr f)))))) {i : Int32} (hin : vp_in i n) {v : Value} (hv : va_rf (f i.toNatClampNeg) = v) (hdg : decode b pc = .ok (.aaload, 1))
    (kk : W p l e R s m args below meth c H locs cells slots Q (F0 m (pc + 1) ls (v :: rest))) : W p l e R s m args below meth c H locs cells slots Q (F0 m pc ls (.int i :: .ref a :: rest)) := by
  subst hv
  exact va_aldq C.1.1 C.1.2.1 hE.1 hW.1 q0 4 ha rfl hin hdg kk
theorem x_iast (C : Cx p s args m c meth own y b nL ret) (hE : KK G A s) (hW : Wd G A H0 H locs ws) (q0 : Nat) {n : Nat} {f : Nat → Int32} (ha : ws[q0]? = some (a, .inl (gI G, n, .inl f))) {i x : Int32} (hin : vp_in i n) (hws : ws.set q0 (a, .inl (gI G, n, .inl (upd f i.toNatClampNeg x))) = ws') (hdg : decode b pc = .ok (.iastore, 1))
    (kk : ∀ (H1 : Heap) (locs1 : List Loc), Wd G A H0 H1 locs1 ws' → W p l e R s m args below meth c H1 locs1 cells slots Q (F0 m (pc + 1) ls rest)) : W p l e R s m args below meth c H locs cells slots Q (F0 m pc ls (.int x :: .int i :: .ref a :: rest)) := by
  subst hws
  exact va_iast C.1.1 C.1.2.1 hE.1 hW.1 hW.2.1 hW.2.2.1 q0 0 ha rfl hin hdg (fun H1 L1 a1 a2 a3 => kk H1 L1 ⟨a1, a2, a3, hW.2.2.2⟩)
theorem x_last (C : Cx p s args m c meth own y b nL ret) (hE : KK G A s) (hW : Wd G A H0 H locs ws) (q0 : Nat) {n : Nat} {f : Nat → Int64} (ha : ws[q0]? = some (a, .inl (gJ G, n, .inr (.inl f)))) {i : Int32} {x : Int64} (hin : vp_in i n) (hws : ws.set q0 (a, .inl (gJ G, n, .inr (.inl (vp_updL f i.toNatClampNeg x)))) = ws') (hdg : decode b pc = .ok (.lastore, 1))
    (kk : ∀ (H1 : Heap) (locs1 : List Loc), Wd G A H0 H1 locs1 ws' → W p l e R s m args below meth c H1 locs1 cells slots Q (F0 m (pc + 1) ls rest)) : W p l e R s m args below meth c H locs cells slots Q (F0 m pc ls (.long x :: .int i :: .ref a :: rest)) := by
  subst hws
  exact va_last C.1.1 C.1.2.1 hE.1 hW.1 hW.2.1 hW.2.2.1 q0 1 ha rfl hin hdg (fun H1 L1 a1 a2 a3 => kk H1 L1 ⟨a1, a2, a3, hW.2.2.2⟩)
theorem x_zast (C : Cx p s args m c meth own y b nL ret) (hE : KK G A s) (hW : Wd G A H0 H locs ws) (q0 : Nat) {n : Nat} {f : Nat → Int32} (ha : ws[q0]? = some (a, .inl (gZ G, n, .inl f))) {i x x' : Int32} (hin : vp_in i n) (hx : vp_nar .boolean x = x') (hws : ws.set q0 (a, .inl (gZ G, n, .inl (upd f i.toNatClampNeg x'))) = ws') (hdg : decode b pc = .ok (.bastore, 1))
    (kk : ∀ (H1 : Heap) (locs1 : List Loc), Wd G A H0 H1 locs1 ws' → W p l e R s m args below meth c H1 locs1 cells slots Q (F0 m (pc + 1) ls rest)) : W p l e R s m args below meth c H locs cells slots Q (F0 m pc ls (.int x :: .int i :: .ref a :: rest)) := by
  subst hx
  subst hws
  exact va_zast C.1.1 C.1.2.1 hE.1 hW.1 hW.2.1 hW.2.2.1 q0 2 ha rfl hin hdg (fun H1 L1 a1 a2 a3 => kk H1 L1 ⟨a1, a2, a3, hW.2.2.2⟩)
theorem x_bast (C : Cx p s args m c meth own y b nL ret) (hE : KK G A s) (hW : Wd G A H0 H locs ws) (q0 : Nat) {n : Nat} {f : Nat → Int32} (ha : ws[q0]? = some (a, .inl (gB G, n, .inl f))) {i x x' : Int32} (hin : vp_in i n) (hx : vp_nar .byte x = x') (hws : ws.set q0 (a, .inl (gB G, n, .inl (upd f i.toNatClampNeg x'))) = ws') (hdg : decode b pc = .ok (.bastore, 1))
    (kk : ∀ (H1 : Heap) (locs1 : List Loc), Wd G A H0 H1 locs1 ws' → W p l e R s m args below meth c H1 locs1 cells slots Q (F0 m (pc + 1) ls rest)) : W p l e R s m args below meth c H locs cells slots Q (F0 m pc ls (.int x :: .int i :: .ref a :: rest)) := by
  subst hx
  subst hws
  exact va_bast C.1.1 C.1.2.1 hE.1 hW.1 hW.2.1 hW.2.2.1 q0 3 ha rfl hin hdg (fun H1 L1 a1 a2 a3 => kk H1 L1 ⟨a1, a2, a3, hW.2.2.2⟩)
theorem x_alen (C : Cx p s args m c meth own y b nL ret) (hE : KK G A s) (hW : Wd G A H0 H locs ws) (q0 t0 : Nat) {cA : ClassId} {x : vp_A} (ha : ws[q0]? = some (a, .inl (cA, x))) {ty : FieldType} (ht : (gT G)[t0]? = some (cA, ty)) {v : Int32} (hv : Int32.ofNat x.1 = v) (hdg : decode b pc = .ok (.arraylength, 1))
    (kk : W p l e R s m args below meth c H locs cells slots Q (F0 m (pc + 1) ls (.int v :: rest))) : W p l e R s m args below meth c H locs cells slots Q (F0 m pc ls (.ref a :: rest)) :=
  va_alen C.1.1 C.1.2.1 hE.1 hW.1 q0 t0 ha ht hv hdg kk
-- ends
theorem x_iret {rm : Room} {v : Int32} {rv : Option Value} {ws' : va_W} (C : Cx p s args m c meth own y b nL (some .int)) (hW : Wd G A s.heap H locs ws) (hv : some (Value.int v) = rv) (hws : ws = ws') (hQ : Q = MQ below (Qx G rv ws' A) args s 0 0 A) (hdg : decode b pc = .ok (.ireturn, 1)) : W p l e rm s m args below meth c H locs 0 0 Q (F0 m pc ls [.int v]) := by
  subst hQ; subst hv; subst hws
  exact W.iret C.1.1 C.1.2.1 C.2.1 (fun t ht hw => ⟨⟨rfl, by rw [ht]; exact hW.1, hW.2.1⟩, hW.2.2.1.F ht⟩) hW.2.2.1.2.2 hdg C.2.2
theorem x_zret {rm : Room} {v : Int32} {rv : Option Value} {ws' : va_W} {ty : FieldType} (C : Cx p s args m c meth own y b nL (some ty)) (hW : Wd G A s.heap H locs ws) (hn : narrow ty (.int v) = .int v) (hv : some (Value.int v) = rv) (hws : ws = ws') (hQ : Q = MQ below (Qx G rv ws' A) args s 0 0 A) (hdg : decode b pc = .ok (.ireturn, 1)) : W p l e rm s m args below meth c H locs 0 0 Q (F0 m pc ls [.int v]) := by
  subst hQ; subst hv; subst hws
  exact W.zret C.1.1 C.1.2.1 C.2.1 hn (fun t ht hw => ⟨⟨rfl, by rw [ht]; exact hW.1, hW.2.1⟩, hW.2.2.1.F ht⟩) hW.2.2.1.2.2 hdg C.2.2
theorem x_lret {rm : Room} {v : Int64} {rv : Option Value} {ws' : va_W} (C : Cx p s args m c meth own y b nL (some .long)) (hW : Wd G A s.heap H locs ws) (hv : some (Value.long v) = rv) (hws : ws = ws') (hQ : Q = MQ below (Qx G rv ws' A) args s 0 0 A) (hdg : decode b pc = .ok (.lreturn, 1)) : W p l e rm s m args below meth c H locs 0 0 Q (F0 m pc ls [.long v]) := by
  subst hQ; subst hv; subst hws
  exact W.lret C.1.1 C.1.2.1 C.2.1 (fun t ht hw => ⟨⟨rfl, by rw [ht]; exact hW.1, hW.2.1⟩, hW.2.2.1.F ht⟩) hW.2.2.1.2.2 hdg C.2.2
theorem x_vret {rm : Room} {rv : Option Value} {ws' : va_W} (C : Cx p s args m c meth own y b nL none) (hW : Wd G A s.heap H locs ws) (hv : none = rv) (hws : ws = ws') (hQ : Q = MQ below (Qx G rv ws' A) args s 0 0 A) (hdg : decode b pc = .ok (.return_, 1)) : W p l e rm s m args below meth c H locs 0 0 Q (F0 m pc ls []) := by
  subst hQ; subst hv; subst hws
  exact W.vret C.1.1 C.1.2.1 C.2.1 (fun t ht hw => ⟨⟨rfl, by rw [ht]; exact hW.1, hW.2.1⟩, hW.2.2.1.F ht⟩) hW.2.2.1.2.2 hdg C.2.2
-- calls
theorem x_run {av : Array Value} {rv : Option Value} {wc wc' wr : va_W} {st0 : List Value} (hr : va_Run p l e R s m args below meth c H locs cells slots 0 0 (F0 m pc ls st0) rest (Qx G rv wc' (va_A wc H.size) av) (va_A wc H.size)) (hW : Wd G A H0 H locs ws) (isC isR perm : List Nat) (hC : isC.map (fun i => ws[i]?) = wc.map some) (hR : isR.map (fun i => ws[i]?) = wr.map some) (hn : va_nd isR = true) (hdis : ∀ i ∈ isR, i ∉ isC)
    (hnp : va_nd perm = true) (hp : perm.map (fun i => (wr ++ wc')[i]?) = ws'.map some)
    (kk : ∀ (H1 : Heap) (locs1 : List Loc), Wd G A H0 H1 locs1 ws' → W p l e R s m args below meth c H1 locs1 cells slots Q (F0 m (pc + 3) ls (rv.toList ++ rest))) : W p l e R s m args below meth c H locs cells slots Q (F0 m pc ls st0) := by
  intro T hT X
  obtain ⟨v, st₀, t, T', L, h0, X', hL, e1, e2, ⟨⟨hv, hp1, hd1⟩, hz, hk⟩, st⟩ := hr T hT X
  cases hv
  rw [h0] at hz hk
  have hF := va_free hW.2.1 hW.2.2.1 hW.2.2.2 isC hC
  have hj := va_join (H1 := t.heap) hW.1 hW.2.1 isC isR hC hR hn hdis (fun q h1 h2 => hk q h1 h2) hF hp1 hd1
  have hP2 : va_P G.1 classes ws' t.heap := by
    intro k q hq
    have h1 : (perm.map (fun i => (wr ++ wc')[i]?))[k]? = some (some q) := by rw [hp, List.getElem?_map, hq]; rfl
    rw [List.getElem?_map] at h1
    cases hi : perm[k]? with
    | none => rw [hi] at h1; cases h1
    | some i => rw [hi] at h1; exact hj.1 i q (Option.some.inj h1)
  have hD2 : va_D A ws' := hj.2.sub perm hnp hp
  obtain ⟨t2, a1, b1⟩ := kk T'.heap (locs ++ L) (by
    refine ⟨by rw [e1]; exact hP2, hD2, ⟨Nat.le_trans hW.2.2.1.1 (by rw [e1]; exact hz), fun q h1 h2 => ?_, fun q hq => ?_⟩, hW.2.2.2⟩
    · rw [e1, hk q (Nat.lt_of_lt_of_le h1 hW.2.2.1.1) (fun z => h2 (hF q z))]
      exact hW.2.2.1.2.1 q h1 h2
    · rcases List.mem_append.mp hq with h | h
      · exact hW.2.2.1.2.2 q h
      · exact hF _ (hL q h)) T' rfl X'
  exact ⟨t2, st t2 a1, b1⟩
/-- what a call of an instance method needs of the tables -/
def CV (y : MethodName) (b : ByteArray) (nL : Nat) (ret : Option FieldType) (n : Nat) : Prop := Cond.instanceMethod y ∈ TT ∧ Cond.selects y.cls y y ∈ TT ∧ Cond.initialized y.cls ∈ TT ∧ Cond.code y b nL ret ∈ TT ∧ (y.cls ≠ "java/lang/invoke/MethodHandle" ∧ y.cls ≠ "java/lang/invoke/VarHandle") ∧ (parseMethodDescriptor y.desc).map (fun d => d.parameters.length) = some n
def CS (y : MethodName) (b : ByteArray) (nL : Nat) (ret : Option FieldType) (n : Nat) : Prop := Cond.static y ∈ TT ∧ Cond.initialized y.cls ∈ TT ∧ Cond.code y b nL ret ∈ TT ∧ (y.cls ≠ "java/lang/invoke/MethodHandle" ∧ y.cls ≠ "java/lang/invoke/VarHandle") ∧ (parseMethodDescriptor y.desc).map (fun d => d.parameters.length) = some n
theorem tt_sub {w0 : Cond} {ws : List Cond} (h : ∀ w ∈ ws, w ∈ TT) : GoodIn (w0 :: TT) ws := fun w hw => ⟨List.mem_cons_of_mem _ (h w hw), tt_good (h w hw)⟩
theorem tt_code {w : Cond} (h : w ∈ TT) : ∀ v ∈ w :: TT, v ∈ TT := fun v hv => by
  rcases List.mem_cons.mp hv with rfl | h1
  · exact h
  · exact h1
theorem wd_rest {ws : va_W} : ∀ {is : List Nat}, is.all (fun i => decide (i < ws.length)) = true → is.map (fun i => ws[i]?) = (is.filterMap fun i => ws[i]?).map some
  | [], _ => rfl
  | i :: is, h => by
    simp only [List.all_cons, Bool.and_eq_true, decide_eq_true_eq] at h
    rw [List.map_cons, List.filterMap_cons, wd_rest h.2, List.getElem?_eq_getElem h.1]
    rfl
theorem x_callV {idx n fr lo nL1 ci q0 : Nat} {y1 : MethodName} {b1 : ByteArray} {ret1 : Option FieldType} {As : List Value} {rv : Option Value} {wc wc' : va_W} {st0 stk : List Value} {K : String} {T : u_T} {N : Nat} {fs : List Value}
    (C : Cx p s args m c meth own y b nL ret) (hE : KK G A s) (hW : Wd G A s.heap H locs ws) (hM : Ct l y1 b1 nL1 ret1 fr lo G (.ref a :: As) wc rv wc') (hc : CV y1 b1 nL1 ret1 n) (hl : Cond.methodLink own idx y1 ∈ TT)
    (hls : lv_has ls nL lv') (hn : As.length = n) (hst : st0 = As.reverse ++ .ref a :: rest) (hrest : (rest.map fun v => v.category).sum ≤ 8)
    (hr : ws[q0]? = some (a, .inr (ci, fs))) (hci : classes[ci]? = some (K, T, N)) (hKc : y1.cls = K) (hR : fr + 1 ≤ R.frames ∧ 8 + (nL1 + 11) + lo ≤ R.locals) (hroom : cells ≤ R.cells ∧ slots ≤ R.slots)
    (isC isR perm : List Nat) (hC : isC.map (fun i => ws[i]?) = wc.map some) (hRs : isR.all (fun i => decide (i < ws.length)) = true) (hnr : va_nd isR = true) (hdis : ∀ i ∈ isR, i ∉ isC) (hnp : va_nd perm = true) (hp : perm.map (fun i => ((isR.filterMap fun i => ws[i]?) ++ wc')[i]?) = ws'.map some) (hnc : va_nd isC = true)
    (hstk : rv.toList ++ rest = stk) (hdg : decode b pc = .ok (.invokevirtual idx, 3))
    (kk : ∀ (H1 : Heap) (locs1 : List Loc), Wd G A s.heap H1 locs1 ws' → W p l e R s m args below meth c H1 locs1 cells slots Q (F0 m (pc + 3) ls stk)) : W p l e R s m args below meth c H locs cells slots Q (F0 m pc ls st0)   := by
  subst hstk
  subst hKc
  obtain ⟨k1, k2, k3, k4, k5, k6⟩ := hc
  have hP1 := hW.1.sub (ws' := wc) isC (by
    have := congrArg (List.filterMap id) hC
    simpa [List.filterMap_map, Function.comp_def] using this)
  have hD1 := (hW.2.1.sub isC hnc hC).weaken (B := fun _ => True) (fun _ _ _ _ => trivial)
  refine x_run (av := (Value.ref a :: As).toArray) (va_runV (As := As) (rest := rest) C.1 (hM H.size) (cwV n C.1.2.2.2.2 (tt_sub (fun w hw => ?_)) rfl rfl rfl ⟨rfl, k5.1, k5.2, k6⟩ hR) ⟨fun a' U g mk q => ?_, va_recv hE.1 hW.1 hci hr, fun U hU hw => ?_⟩ rfl hn hls.1 hst (lv_room hrest) hdg ⟨hroom.1, hroom.2⟩) hW isC isR perm hC (wd_rest hRs) hnr hdis hnp hp kk
  · rcases List.mem_append.mp hw with h | h
    · simp only [List.mem_cons, List.not_mem_nil, or_false] at h
      rcases h with rfl | rfl | rfl | rfl
      · exact hl
      · exact k1
      · exact k2
      · exact k3
    · exact tt_code k4 w h
  · obtain ⟨z0, z1, z2, z3, z4⟩ := q
    exact ⟨z0, z1, z2, z3.blind g mk a', z4⟩
  · exact ⟨rfl, by rw [hU], by rw [hU]; exact hP1, hE.warm hw (by rw [hU]; exact hW.2.2.1) (va_free hW.2.1 hW.2.2.1 hW.2.2.2 isC hC), hD1⟩
theorem x_callS {idx n fr lo nL1 : Nat} {y1 : MethodName} {b1 : ByteArray} {ret1 : Option FieldType} {As : List Value} {rv : Option Value} {wc wc' : va_W} {st0 stk : List Value}
    (C : Cx p s args m c meth own y b nL ret) (hE : KK G A s) (hW : Wd G A s.heap H locs ws) (hM : Ct l y1 b1 nL1 ret1 fr lo G As wc rv wc') (hc : CS y1 b1 nL1 ret1 n) (hl : Cond.methodLink own idx y1 ∈ TT)
    (hls : lv_has ls nL lv') (hn : As.length = n) (hst : st0 = As.reverse ++ rest) (hrest : (rest.map fun v => v.category).sum ≤ 8)
    (hR : fr + 1 ≤ R.frames ∧ 8 + (nL1 + 11) + lo ≤ R.locals) (hroom : cells ≤ R.cells ∧ slots ≤ R.slots)
    (isC isR perm : List Nat) (hC : isC.map (fun i => ws[i]?) = wc.map some) (hRs : isR.all (fun i => decide (i < ws.length)) = true) (hnr : va_nd isR = true) (hdis : ∀ i ∈ isR, i ∉ isC) (hnp : va_nd perm = true) (hp : perm.map (fun i => ((isR.filterMap fun i => ws[i]?) ++ wc')[i]?) = ws'.map some) (hnc : va_nd isC = true)
    (hstk : rv.toList ++ rest = stk) (hdg : decode b pc = .ok (.invokestatic idx, 3))
    (kk : ∀ (H1 : Heap) (locs1 : List Loc), Wd G A s.heap H1 locs1 ws' → W p l e R s m args below meth c H1 locs1 cells slots Q (F0 m (pc + 3) ls stk)) : W p l e R s m args below meth c H locs cells slots Q (F0 m pc ls st0)   := by
  subst hstk
  obtain ⟨k1, k3, k4, k5, k6⟩ := hc
  have hP1 := hW.1.sub (ws' := wc) isC (by
    have := congrArg (List.filterMap id) hC
    simpa [List.filterMap_map, Function.comp_def] using this)
  have hD1 := (hW.2.1.sub isC hnc hC).weaken (B := fun _ => True) (fun _ _ _ _ => trivial)
  refine x_run (av := As.toArray) (va_runS (As := As) (rest := rest) C.1 (hM H.size) (va_cwS n C.1.2.2.2.2 (tt_sub (fun w hw => ?_)) rfl rfl rfl ⟨k5.1, k5.2, k6⟩ hR) ⟨fun a' U g mk q => ?_, fun U hU hw => ?_⟩ rfl hn hls.1 hst (lv_room hrest) hdg ⟨hroom.1, hroom.2⟩) hW isC isR perm hC (wd_rest hRs) hnr hdis hnp hp kk
  · rcases List.mem_append.mp hw with h | h
    · simp only [List.mem_cons, List.not_mem_nil, or_false] at h
      rcases h with rfl | rfl | rfl
      · exact hl
      · exact k1
      · exact k3
    · exact tt_code k4 w h
  · obtain ⟨z0, z1, z2, z3, z4⟩ := q
    exact ⟨z0, z1, z2, z3.blind g mk a', z4⟩
  · exact ⟨rfl, by rw [hU], by rw [hU]; exact hP1, hE.warm hw (by rw [hU]; exact hW.2.2.1) (va_free hW.2.1 hW.2.2.1 hW.2.2.2 isC hC), hD1⟩
theorem x_callN {idx n fr lo nL1 : Nat} {y1 : MethodName} {b1 : ByteArray} {ret1 : Option FieldType} {As : List Value} {rv : Option Value} {wc wc' : va_W} {st0 stk : List Value}
    (C : Cx p s args m c meth own y b nL ret) (hE : KK G A s) (hW : Wd G A s.heap H locs ws) (hM : Ct l y1 b1 nL1 ret1 fr lo G As wc rv wc') (hc : CS y1 b1 nL1 ret1 n) (hl : va_Nw (.methodLinkNest own idx y1 y1.cls) s)
    (hls : lv_has ls nL lv') (hn : As.length = n) (hst : st0 = As.reverse ++ rest) (hrest : (rest.map fun v => v.category).sum ≤ 8)
    (hR : fr + 1 ≤ R.frames ∧ 8 + (nL1 + 11) + lo ≤ R.locals) (hroom : cells ≤ R.cells ∧ slots ≤ R.slots)
    (isC isR perm : List Nat) (hC : isC.map (fun i => ws[i]?) = wc.map some) (hRs : isR.all (fun i => decide (i < ws.length)) = true) (hnr : va_nd isR = true) (hdis : ∀ i ∈ isR, i ∉ isC) (hnp : va_nd perm = true) (hp : perm.map (fun i => ((isR.filterMap fun i => ws[i]?) ++ wc')[i]?) = ws'.map some) (hnc : va_nd isC = true)
    (hstk : rv.toList ++ rest = stk) (hdg : decode b pc = .ok (.invokestatic idx, 3))
    (kk : ∀ (H1 : Heap) (locs1 : List Loc), Wd G A s.heap H1 locs1 ws' → W p l e R s m args below meth c H1 locs1 cells slots Q (F0 m (pc + 3) ls stk)) : W p l e R s m args below meth c H locs cells slots Q (F0 m pc ls st0)   := by
  subst hstk
  obtain ⟨k1, k3, k4, k5, k6⟩ := hc
  have hP1 := hW.1.sub (ws' := wc) isC (by
    have := congrArg (List.filterMap id) hC
    simpa [List.filterMap_map, Function.comp_def] using this)
  have hD1 := (hW.2.1.sub isC hnc hC).weaken (B := fun _ => True) (fun _ _ _ _ => trivial)
  refine x_run (av := As.toArray) (va_runSN (As := As) (rest := rest) C.1 (hM H.size) ⟨va_cnB n C.1.2.2.2.2 (tt_sub (tt_code k4)) rfl rfl rfl hl (C.w k3) ⟨k5.1, k5.2, k6⟩ hR, C.w k1, trivial⟩ ⟨fun a' U g mk q => ?_, fun U hU hw => ?_⟩ rfl hn hls.1 hst (lv_room hrest) hdg ⟨hroom.1, hroom.2⟩) hW isC isR perm hC (wd_rest hRs) hnr hdis hnp hp kk
  · obtain ⟨z0, z1, z2, z3, z4⟩ := q
    exact ⟨z0, z1, z2, z3.blind g mk a', z4⟩
  · exact ⟨rfl, by rw [hU], by rw [hU]; exact hP1, hE.warm hw (by rw [hU]; exact hW.2.2.1) (va_free hW.2.1 hW.2.2.1 hW.2.2.2 isC hC), hD1⟩
theorem x_copyi {idx : Nat} (C : Cx p s args m c meth own y b nL ret) (hE : KK G A s) (hW : Wd G A H0 H locs ws) (hls : lv_has ls nL lv') (hl : Cond.methodLink own idx arraycopyName ∈ TT) (q0 q1 : Nat) {a0 n0 n1 : Nat} {f g : Nat → Int32} (ha0 : ws[q0]? = some (a0, .inl (gI G, n0, .inl f))) (ha1 : ws[q1]? = some (a, .inl (gI G, n1, .inl g)))
    {sp dp n : Int32} (h1 : ¬ sp < 0 ∧ ¬ dp < 0 ∧ ¬ n < 0 ∧ sp.toNatClampNeg + n.toNatClampNeg ≤ n0 ∧ dp.toNatClampNeg + n.toNatClampNeg ≤ n1) (hws : ws.set q1 (a, .inl (gI G, n1, .inl (va_cpy f g sp.toNatClampNeg dp.toNatClampNeg n.toNatClampNeg))) = ws') (hframes : 1 ≤ R.frames) (hlocals : (rest.map fun v => v.category).sum + (nativeFrameWords "java/lang/System" "arraycopy" 5 + 11) ≤ R.locals) (hdg : decode b pc = .ok (.invokestatic idx, 3))
    (kk : ∀ (H1 : Heap) (locs1 : List Loc), Wd G A H0 H1 locs1 ws' → W p l e R s m args below meth c H1 locs1 cells slots Q (F0 m (pc + 3) ls rest)) : W p l e R s m args below meth c H locs cells slots Q (F0 m pc ls (.int n :: .int dp :: .ref a :: .int sp :: .ref a0 :: rest)) := by
  subst hws
  exact va_copyi C.1.1 C.1.2.1 (C.1.2.2.1.trans hls.1.symm) C.1.2.2.2.1 (C.w hl) (C.w tw374) (C.w tw373) (C.w tw83) hE.1 hW.1 hW.2.1 hW.2.2.1 q0 q1 0 0 ha0 ha1 rfl rfl rfl h1.1 h1.2.1 h1.2.2.1 h1.2.2.2.1 h1.2.2.2.2 (fun _ _ => rfl) hframes hlocals hdg (fun H1 L1 a1 a2 a3 => kk H1 L1 ⟨a1, a2, a3, hW.2.2.2⟩)
theorem x_copyl {idx : Nat} (C : Cx p s args m c meth own y b nL ret) (hE : KK G A s) (hW : Wd G A H0 H locs ws) (hls : lv_has ls nL lv') (hl : Cond.methodLink own idx arraycopyName ∈ TT) (q0 q1 : Nat) {a0 n0 n1 : Nat} {f g : Nat → Int64} (ha0 : ws[q0]? = some (a0, .inl (gJ G, n0, .inr (.inl f)))) (ha1 : ws[q1]? = some (a, .inl (gJ G, n1, .inr (.inl g))))
    {sp dp n : Int32} (h1 : ¬ sp < 0 ∧ ¬ dp < 0 ∧ ¬ n < 0 ∧ sp.toNatClampNeg + n.toNatClampNeg ≤ n0 ∧ dp.toNatClampNeg + n.toNatClampNeg ≤ n1) (hws : ws.set q1 (a, .inl (gJ G, n1, .inr (.inl (va_cpy f g sp.toNatClampNeg dp.toNatClampNeg n.toNatClampNeg)))) = ws') (hframes : 1 ≤ R.frames) (hlocals : (rest.map fun v => v.category).sum + (nativeFrameWords "java/lang/System" "arraycopy" 5 + 11) ≤ R.locals) (hdg : decode b pc = .ok (.invokestatic idx, 3))
    (kk : ∀ (H1 : Heap) (locs1 : List Loc), Wd G A H0 H1 locs1 ws' → W p l e R s m args below meth c H1 locs1 cells slots Q (F0 m (pc + 3) ls rest)) : W p l e R s m args below meth c H locs cells slots Q (F0 m pc ls (.int n :: .int dp :: .ref a :: .int sp :: .ref a0 :: rest)) := by
  subst hws
  exact va_copyl C.1.1 C.1.2.1 (C.1.2.2.1.trans hls.1.symm) C.1.2.2.2.1 (C.w hl) (C.w tw374) (C.w tw373) (C.w tw83) hE.1 hW.1 hW.2.1 hW.2.2.1 q0 q1 1 1 ha0 ha1 rfl rfl rfl h1.1 h1.2.1 h1.2.2.1 h1.2.2.2.1 h1.2.2.2.2 (fun _ _ => rfl) hframes hlocals hdg (fun H1 L1 a1 a2 a3 => kk H1 L1 ⟨a1, a2, a3, hW.2.2.2⟩)
end X1

/-! the law, from its entry -/
theorem nw_Lw_7 : NW "LentAirLaw" 7 3 8 [.null, .null, .null, .null, .null, .null, .null, .null] := ⟨_, _, t_Ai, rfl, i_Ai, tw90, tw91, tw77, t_Ai_ok, fun j hj => by rcases (show j = 0 ∨ j = 1 ∨ j = 2 ∨ j = 3 ∨ j = 4 ∨ j = 5 ∨ j = 6 ∨ j = 7 by omega) with rfl | rfl | rfl | rfl | rfl | rfl | rfl | rfl <;> rfl⟩
theorem nw_Lw_10 : NW "LentAirLaw" 10 4 32 [.null, .null, .int 0, .null, .int 0, .int 0, .int 0, .int 0, .int 0, .int 0, .null, .int 0, .int 0, .int 0, .int 0, .null, .null, .null, .null, .int 0, .int 0, .long 0, .int 0, .int 0, .int 0, .int 0, .int 0, .int 0, .null, .int 0, .null, .null] := ⟨_, _, t_Mo, rfl, i_Mo, tw806, tw807, tw82, t_Mo_ok, fun j hj => by rcases (show j = 0 ∨ j = 1 ∨ j = 2 ∨ j = 3 ∨ j = 4 ∨ j = 5 ∨ j = 6 ∨ j = 7 ∨ j = 8 ∨ j = 9 ∨ j = 10 ∨ j = 11 ∨ j = 12 ∨ j = 13 ∨ j = 14 ∨ j = 15 ∨ j = 16 ∨ j = 17 ∨ j = 18 ∨ j = 19 ∨ j = 20 ∨ j = 21 ∨ j = 22 ∨ j = 23 ∨ j = 24 ∨ j = 25 ∨ j = 26 ∨ j = 27 ∨ j = 28 ∨ j = 29 ∨ j = 30 ∨ j = 31 by omega) with rfl | rfl | rfl | rfl | rfl | rfl | rfl | rfl | rfl | rfl | rfl | rfl | rfl | rfl | rfl | rfl | rfl | rfl | rfl | rfl | rfl | rfl | rfl | rfl | rfl | rfl | rfl | rfl | rfl | rfl | rfl | rfl <;> rfl⟩
theorem wd_swap {G : Gl} {A : Nat → Prop} {H0 H : Heap} {locs : List Loc} {ws ws' : va_W} (hW : Wd G A H0 H locs ws) (k : Nat) {a : Nat} {cA : ClassId} {x y : vp_A} (hk : ws[k]? = some (a, .inl (cA, x))) (hxy : vp_cell cA x = vp_cell cA y) (hs : ws.set k (a, .inl (cA, y)) = ws') : Wd G A H0 H locs ws' := by
  subst hs
  have key : ∀ (k2 : Nat) (q : Nat × va_E), (ws.set k (a, .inl (cA, y)))[k2]? = some q → ∃ q', ws[k2]? = some q' ∧ q'.1 = q.1 ∧ (va_at G.1 classes q' H → va_at G.1 classes q H) := by
    intro k2 q h
    by_cases e : k2 = k
    · subst e
      rw [List.getElem?_set_self', hk] at h
      obtain rfl : (a, Sum.inl (cA, y)) = q := Option.some.inj h
      refine ⟨_, hk, rfl, fun z => ?_⟩
      have z : H[a]? = some (vp_cell cA x) := z
      rw [hxy] at z
      exact z
    · rw [List.getElem?_set_ne (Ne.symm e)] at h
      exact ⟨q, h, rfl, id⟩
  refine ⟨fun k2 q h => ?_, ⟨fun i j p q h1 h2 e => ?_, fun k2 q h => ?_⟩, hW.2.2⟩
  · obtain ⟨q', h1, -, h3⟩ := key k2 q h
    exact h3 (hW.1 k2 q' h1)
  · obtain ⟨p', a1, a2, -⟩ := key i p h1
    obtain ⟨q', b1, b2, -⟩ := key j q h2
    exact hW.2.1.1 i j p' q' a1 b1 (by rw [a2, b2]; exact e)
  · obtain ⟨q', h1, h2, -⟩ := key k2 q h
    rw [← h2]
    exact hW.2.1.2 k2 q' h1
theorem im_cell (cA : ClassId) (a0 a1 : Nat) : vp_cell cA (2, .inr (.inr (.inr (.inr (va_up (va_up (fun _ => none) (0 : Int32).toNatClampNeg (some a0)) (1 : Int32).toNatClampNeg (some a1)))))) = vp_cell cA (2, .inr (.inr (.inr (.inr (imF a0 a1))))) := by
  have e : (fun j : _root_.Fin 2 => va_rf (va_up (va_up (fun _ => none) (0 : Int32).toNatClampNeg (some a0)) (1 : Int32).toNatClampNeg (some a1) j.val)) = fun j : _root_.Fin 2 => va_rf (imF a0 a1 j.val) := by
    funext j
    obtain ⟨j, hj⟩ := j
    have hi : j = 0 ∨ j = 1 := by omega
    rcases hi with rfl | rfl
    · rfl
    · rfl
  exact congrArg (fun f : _root_.Fin 2 → Value => ({ cls := cA, slots := Array.ofFn f, vm := .none } : Cell)) e
theorem in_start {row : Nat → Int32} {v : Nat → Nat} {L : Nat → Nat} {ev fc lc : Int64} {gr ar to : Nat → Int64} {fe lts : Nat → Int32} (h : LnC row v L (nI 5, nI 5, ev, fc, lc, gr, ar, to, fe, lts, 0, (fun _ => 0), (fun _ => 0), (fun _ => 0), (fun _ => 0), 0, (fun _ => 0), 0, (fun _ => 0))) : IN row (fun _ => 0) (fun _ => 0) (fun _ => 0) (fun _ => 0) (fun _ => 0) 0 0 0 0 (nI 5, nI 5, ev, fc, lc, gr, ar, to, fe, lts, 0, (fun _ => 0), (fun _ => 0), (fun _ => 0), (fun _ => 0), 0, (fun _ => 0), 0, (fun _ => 0)) (nI 5, nI 5, ev, fc, lc, gr, ar, to, fe, lts, 0, (fun _ => 0), (fun _ => 0), (fun _ => 0), (fun _ => 0), 0, (fun _ => 0), 0, (fun _ => 0)) (nI 5, nI 5, ev, fc, lc, gr, ar, to, fe, lts, 0, (fun _ => 0), (fun _ => 0), (fun _ => 0), (fun _ => 0), 0, (fun _ => 0), 0, (fun _ => 0)) :=
  ⟨⟨v, L, h⟩, ⟨rfl, fun h => absurd rfl h⟩, ⟨rfl, fun h => absurd rfl h⟩, ⟨rfl, rfl, rfl⟩, Nat.zero_le _, fun i h => absurd h (Nat.not_lt_zero i)⟩
set_option maxHeartbeats 8000000 in
set_option maxRecDepth 100000 in
theorem whole_start {p : Program} {e : Env} {s : State} {m : MethodId} {below : List Frame} {meth : Method} {c : Code} (l : Launch) (hflags : l.flags = flags0) {b L : Nat} {xs : Nat → Int32} (hL : L ≤ 384) (C0 : lw_At p s m meth c b L xs) : W p l e room_1 s m #[Value.ref b] below meth c s.heap [] 0 0 (lw_Z below #[Value.ref b] s) (entryFrame m ([Value.ref b] : List Value).toArray 4) := by
  obtain ⟨hx, hb, hr, hml, hown, hts, hX, hbl, hlocks, hgv⟩ := id C0
  have C : CallFix p m c code 4 s #[Value.ref b] TT "LentAirLaw" := ⟨hx, hb, hml, hown, fun w h => hts w (tt_tbl h)⟩
  obtain ⟨G, hE, hAO⟩ := kk_start hts hgv
  obtain ⟨ev, fc, lc, gr, ar, to, fe, lts, row, y1, y2, y3, -⟩ := lay_two (fun _ => 0) (fun _ => 0) (fun _ => 0) (fun _ => 0) (fun _ => 0) (fun _ => 0) (w := 5) (h := 5) (by decide) (by decide) (by decide) (by decide)
  have E : LwE p s m c b L xs G := ⟨C, hE, hX, hbl, hL⟩
  have hW : Wd G (LA s) s.heap s.heap [] [] := ⟨fun k q h => by simp at h, ⟨fun i j p q h => by simp at h, fun k q h => by simp at h⟩, va_S.rf, fun q h => h⟩
  have hl := lv_entry ([.ref b]) (n := 4) (Nat.le_of_ble_eq_true rfl)
  rw [lg_entry_eq]
  generalize (lg_sl ([.ref b]) ++ List.replicate (4 - (lg_sl ([.ref b])).length) Slot.unset).toArray = ls at hl ⊢
  have hl : lv_has ls 4 [(0, .ref b)] := hl
  refine y_new C hE hW nw_Lw_7 (Nat.le_of_ble_eq_true rfl) (Nat.le_of_ble_eq_true rfl) d_law_0 (fun aA H hW => ?_)
  have hW : Wd G (LA s) s.heap H [] [(aA, .inr (3, [.null, .null, .null, .null, .null, .null, .null, .null]))] := hW
  refine lv_dup C.1 C.2.1 d_law_3 rfl ?_
  refine y_callI (rest := [.ref aA]) (As := []) C hE hAO hW (c_Ai_init l G aA y1) ci_Ai_init tw92 hl rfl rfl (Nat.le_of_ble_eq_true rfl) ⟨Nat.le_of_ble_eq_true rfl, Nat.le_of_ble_eq_true rfl⟩ ⟨Nat.le_of_ble_eq_true rfl, Nat.le_of_ble_eq_true rfl⟩ [0] [] rfl rfl rfl (by decide) rfl d_law_4 (fun ad H locs hW => ?_)
  have hW := wd_swap hW 25 rfl (im_cell (gO G) (ad 25) (ad 37)) rfl
  refine lv_astore_n (lv' := [(1, .ref aA), (0, .ref b)]) C.1 C.2.1 d_law_7 rfl hl (by decide) rfl (fun ls hl => ?_)
  refine y_new C hE hW nw_Lw_10 (Nat.le_of_ble_eq_true rfl) (Nat.le_of_ble_eq_true rfl) d_law_8 (fun aM H hW => ?_)
  refine lv_dup C.1 C.2.1 d_law_11 rfl ?_
  refine y_callI (rest := [.ref aM]) (As := []) C hE hAO hW (c_Mo_init l G aM y2) ci_Mo_init tw808 hl rfl rfl (Nat.le_of_ble_eq_true rfl) ⟨Nat.le_of_ble_eq_true rfl, Nat.le_of_ble_eq_true rfl⟩ ⟨Nat.le_of_ble_eq_true rfl, Nat.le_of_ble_eq_true rfl⟩ [61] [0, 1, 2, 3, 4, 5, 6, 7, 8, 9, 10, 11, 12, 13, 14, 15, 16, 17, 18, 19, 20, 21, 22, 23, 24, 25, 26, 27, 28, 29, 30, 31, 32, 33, 34, 35, 36, 37, 38, 39, 40, 41, 42, 43, 44, 45, 46, 47, 48, 49, 50, 51, 52, 53, 54, 55, 56, 57, 58, 59, 60] rfl rfl rfl (by decide +kernel) rfl d_law_12 (fun am H locs hW => ?_)
  have hW := wd_perm (ws' := wor G aA aM (fun k => [ad 24, ad 49, ad 50, ad 55, ad 58, ad 59, ad 51, ad 52, ad 53, ad 54, ad 56, ad 57].getD k 0) (fun k => [ad 1, ad 2, ad 3, ad 4, ad 5, ad 6, ad 7, ad 8, ad 9, ad 10, ad 11, ad 0].getD k 0) (fun k => [ad 13, ad 14, ad 15, ad 16, ad 17, ad 18, ad 19, ad 20, ad 21, ad 22, ad 23, ad 12].getD k 0) (fun k => [ad 26, ad 27, ad 28, ad 29, ad 30, ad 31, ad 32, ad 33, ad 34, ad 35, ad 36, ad 25].getD k 0) (fun k => [ad 38, ad 39, ad 40, ad 41, ad 42, ad 43, ad 44, ad 45, ad 46, ad 47, ad 48, ad 37].getD k 0) (fun k => [am 0, am 1, am 2, am 3, am 4, am 5, am 6, am 7, am 8, am 9, am 10].getD k 0) (nI 5, nI 5, ev, fc, lc, gr, ar, to, fe, lts, 0, (fun _ => 0), (fun _ => 0), (fun _ => 0), (fun _ => 0), 0, (fun _ => 0), 0, (fun _ => 0)) (nI 5, nI 5, ev, fc, lc, gr, ar, to, fe, lts, 0, (fun _ => 0), (fun _ => 0), (fun _ => 0), (fun _ => 0), 0, (fun _ => 0), 0, (fun _ => 0)) (nI 5, nI 5, ev, fc, lc, gr, ar, to, fe, lts, 0, (fun _ => 0), (fun _ => 0), (fun _ => 0), (fun _ => 0), 0, (fun _ => 0), 0, (fun _ => 0)) (nI 5, nI 5, ev, fc, lc, gr, ar, to, fe, lts, 0, (fun _ => 0), (fun _ => 0), (fun _ => 0), (fun _ => 0), 0, (fun _ => 0), 0, (fun _ => 0)) (ad 0, 0, 0, 0, 0, 0, (fun _ => 0), (fun _ => 0), (fun _ => 0), (fun _ => 0), 0, 0) (ad 12, 0, 0, 0, (fun _ => 0)) (0, 0, 0, (fun _ => 0), 0, 0, 0, 0, (fun _ => 0), (fun _ => 0), (fun _ => 0), (fun _ => 0), 0, 0, 0, 0, 0, (fun _ => 0), 0, (fun _ => 0), (fun _ => 0)) (fun _ => 0) (fun _ => 0) row (fun _ => 0) (fun _ => 0) (fun _ => 0) (fun _ => 0) (nI 0) (nI 0) 0 0 0) hW [0, 25, 50, 59, 60, 1, 2, 3, 4, 5, 6, 7, 8, 9, 10, 11, 12, 13, 14, 15, 16, 17, 18, 19, 20, 21, 22, 23, 24, 26, 27, 28, 29, 30, 31, 32, 33, 34, 35, 36, 37, 38, 39, 40, 41, 42, 43, 44, 45, 46, 47, 48, 49, 51, 52, 53, 54, 55, 56, 57, 58, 61, 62, 63, 64, 65, 66, 67, 68, 69, 70, 71, 72] (by decide +kernel) rfl
  refine lv_astore_n (lv' := [(2, .ref aM), (1, .ref aA), (0, .ref b)]) C.1 C.2.1 d_law_15 rfl hl (by decide) rfl (fun ls hl => ?_)
  refine lv_iconst (v := 0) C.1 C.2.1 d_law_16 (by decide) ?_
  refine lv_istore_n (lv' := lvL b aA aM 0) C.1 C.2.1 d_law_17 rfl hl (by decide) rfl (fun ls hl => ?_)
  exact law_loop E hr hlocks (L + 1) 0 (Nat.zero_le L) (by omega) H locs ls ⟨_, _, _, _, _, _, _, _, _, _, _, _, _, _, _, _, _, _, _, _, _, _, _, _, in_start (y3 _ _ _ _ _ _), hW⟩ hl

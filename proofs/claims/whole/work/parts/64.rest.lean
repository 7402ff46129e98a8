/-! an item, both sides -/
theorem bd_bd {α β γ : Type} (x : Option α) (f : α → Option β) (g : β → Option γ) : bd (bd x f) g = bd x fun a => bd (f a) g := by
  cases x <;> rfl
theorem rC_bd {α β : Type} {len c m : Int32} {M : Nat} (hM : 6 * M + 5 < 450) {t2 : Nat → Int32} {w : Nat} (F K : Int32 → Int32 → Int32 → (Nat → Int32) → Option α) (G : α → Option β) : ∀ (d i : Nat) (a p e : Int32) (rd : Nat → Int32), bd (rC len (nI M) c m t2 w F K d i a p e rd) G = rC len (nI M) c m t2 w (fun a p e rd => bd (F a p e rd) G) (fun a p e rd => bd (K a p e rd) G) d i a p e rd
  | 0, _, _, _, _, _ => rfl
  | d + 1, i, a, p, e, rd => by
    rw [rC_s hM, rC_s hM, bd_bd]
    congr 1
    funext ⟨z, a', p', e', rd'⟩
    dsimp only
    by_cases h : z = 0
    · rw [if_pos h, if_pos h]
    · rw [if_neg h, if_neg h]
      exact rC_bd hM F K G d (i + 1) a' p' e' rd'
theorem rest_eq {len c m l : Int32} {M : Nat} (hM : 6 * M + 5 < 450) (t2 : Nat → Int32) {w : Nat} (hw : w < 6) :
    ∃ F K : Int32 → Int32 → Int32 → (Nat → Int32) → Option (Int32 × Int32 × Int32 × Int32 × (Nat → Int32) × Int32 × Int32 × Int32), (∀ a p e rd, f_Mo_readsRest len a p e (nI M) c m l t2 rd (nI w) = rC len (nI M) c m t2 w F K (nmI w) 0 a p e rd) ∧ (∀ a p e rd, ∃ x y z, F a p e rd = some (0, a, p, e, rd, x, y, z)) ∧ ∀ a p e rd, K a p e rd = some (1, a, p, e, rd, if w = 0 then rd 1 * rd 2 else c, if w = 4 then m + 1 else m, if w = 5 then l + 1 else l) := by
  have hw6 : w = 0 ∨ w = 1 ∨ w = 2 ∨ w = 3 ∨ w = 4 ∨ w = 5 := by omega
  rcases hw6 with rfl | rfl | rfl | rfl | rfl | rfl
  · refine ⟨fun a p e rd => some (0, a, p, e, rd, c, m, l), fun a p e rd => lt (rd 1 * rd 2) fun x13 => some (1, a, p, e, rd, x13, m, l), fun a p e rd => ?_, fun a p e rd => ⟨_, _, _, rfl⟩, fun a p e rd => rfl⟩
    unfold f_Mo_readsRest
    rw [if_pos (show nI 0 = (0 : Int32) from rfl)]
    show _ = rC len (nI M) c m t2 0 _ _ 2 0 a p e rd
    simp only [rC_s hM]
    rfl
  · refine ⟨fun a p e rd => some (0, a, p, e, rd, c, m, l), fun a p e rd => some (1, a, p, e, rd, c, m, l), fun a p e rd => ?_, fun a p e rd => ⟨_, _, _, rfl⟩, fun a p e rd => rfl⟩
    unfold f_Mo_readsRest
    rw [if_neg (show ¬ nI 1 = (0 : Int32) from by decide), if_pos (show nI 1 = (1 : Int32) from rfl)]
    show _ = rC len (nI M) c m t2 1 _ _ 2 0 a p e rd
    simp only [rC_s hM]
    rfl
  · refine ⟨fun a p e rd => some (0, a, p, e, rd, c, m, l), fun a p e rd => some (1, a, p, e, rd, c, m, l), fun a p e rd => ?_, fun a p e rd => ⟨_, _, _, rfl⟩, fun a p e rd => rfl⟩
    unfold f_Mo_readsRest
    rw [if_neg (show ¬ nI 2 = (0 : Int32) from by decide), if_neg (show ¬ nI 2 = (1 : Int32) from by decide), if_pos (show nI 2 = (2 : Int32) from rfl)]
    show _ = rC len (nI M) c m t2 2 _ _ 2 0 a p e rd
    simp only [rC_s hM]
    rfl
  · refine ⟨fun a p e rd => some (0, a, p, e, rd, c, m, l), fun a p e rd => some (1, a, p, e, rd, c, m, l), fun a p e rd => ?_, fun a p e rd => ⟨_, _, _, rfl⟩, fun a p e rd => rfl⟩
    unfold f_Mo_readsRest
    rw [if_neg (show ¬ nI 3 = (0 : Int32) from by decide), if_neg (show ¬ nI 3 = (1 : Int32) from by decide), if_neg (show ¬ nI 3 = (2 : Int32) from by decide), if_pos (show nI 3 = (3 : Int32) from rfl)]
    show _ = rC len (nI M) c m t2 3 _ _ 2 0 a p e rd
    simp only [rC_s hM]
    rfl
  · refine ⟨fun a p e rd => some (0, a, p, e, rd, c, m + 1, l), fun a p e rd => some (1, a, p, e, rd, c, m + 1, l), fun a p e rd => ?_, fun a p e rd => ⟨_, _, _, rfl⟩, fun a p e rd => rfl⟩
    unfold f_Mo_readsRest
    rw [if_neg (show ¬ nI 4 = (0 : Int32) from by decide), if_neg (show ¬ nI 4 = (1 : Int32) from by decide), if_neg (show ¬ nI 4 = (2 : Int32) from by decide), if_neg (show ¬ nI 4 = (3 : Int32) from by decide), if_pos (show nI 4 = (4 : Int32) from rfl)]
    have mk : f_Mo_readsMaker len a p e (nI M) c m t2 rd = rC len (nI M) c m t2 4 (fun a p e rd => some ((0 : Int32), a, p, e, rd, m + 1)) (fun a p e rd => some ((1 : Int32), a, p, e, rd, m + 1)) 3 0 a p e rd := by
      unfold f_Mo_readsMaker
      rw [ltE]
      simp only [rC_s hM]
      rfl
    rw [mk, rC_bd hM]
    rfl
  · refine ⟨fun a p e rd => some (0, a, p, e, rd, c, m, l + 1), fun a p e rd => some (1, a, p, e, rd, c, m, l + 1), fun a p e rd => ?_, fun a p e rd => ⟨_, _, _, rfl⟩, fun a p e rd => rfl⟩
    unfold f_Mo_readsRest
    rw [if_neg (show ¬ nI 5 = (0 : Int32) from by decide), if_neg (show ¬ nI 5 = (1 : Int32) from by decide), if_neg (show ¬ nI 5 = (2 : Int32) from by decide), if_neg (show ¬ nI 5 = (3 : Int32) from by decide), if_neg (show ¬ nI 5 = (4 : Int32) from by decide), ltE]
    simp only [six_n, show nI (6 * M) + 3 = nI (6 * M + 3) from nIa (6 * M) 3, gd_nI (show 6 * M + 3 < 450 by omega) (show 450 < 2 ^ 31 by decide), nI_clamp (show 6 * M + 3 < 2 ^ 31 by omega)]
    show _ = rC len (nI M) c m t2 5 _ _ 5 0 a p e rd
    simp only [rC_s hM]
    rfl


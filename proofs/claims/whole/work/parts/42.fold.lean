/-! loops that fold -/
def fd (st : Nat → Int64 → Int64) : Nat → Int64 → Int64
  | 0, a => a
  | n + 1, a => st n (fd st n a)
theorem fd_congr {s t : Nat → Int64 → Int64} {n : Nat} (h : ∀ i, i < n → ∀ a, s i a = t i a) (a : Int64) : fd s n a = fd t n a := by
  induction n with
  | zero => rfl
  | succ n ih =>
    show s n (fd s n a) = t n (fd t n a)
    rw [ih fun i hi => h i (by omega), h n (by omega)]
theorem fd_add (s : Nat → Int64 → Int64) (n m : Nat) (a : Int64) : fd s (n + m) a = fd (fun i => s (n + i)) m (fd s n a) := by
  induction m with
  | zero => rfl
  | succ m ih =>
    show s (n + m) (fd s (n + m) a) = s (n + m) (fd (fun i => s (n + i)) m (fd s n a))
    rw [ih]
theorem fd_mul (s : Nat → Int64 → Int64) (k n : Nat) (a : Int64) : fd s (k * n) a = fd (fun i => fd (fun j => s (k * i + j)) k) n a := by
  induction n with
  | zero => rfl
  | succ n ih =>
    show fd s (k * (n + 1)) a = fd (fun j => s (k * n + j)) k (fd (fun i => fd (fun j => s (k * i + j)) k) n a)
    rw [← ih, show k * (n + 1) = k * n + k from Nat.mul_succ k n, fd_add]
theorem fd_lp {α : Type} {F : (Int64 → Option α) → ((Int64 × Int32) → Option α) → (Int64 × Int32) → Option α} (st : Nat → Int64 → Int64) (N : Nat) (hN : N < 4096) (step : ∀ i a, i < N → ∀ J rec, F J rec (a, nI i) = rec (st i a, nI (i + 1))) (stop : ∀ a J rec, F J rec (a, nI N) = J a) (a : Int64) (J : Int64 → Option α) : lp (F J) FU (a, 0) = J (fd st N a) := by
  obtain ⟨x, rfl, h⟩ := lp_fam (f := F) (fun i (y : Int64 × Int32) => y = (fd st i a, nI i)) N hN (by
    rintro i _ hi rfl
    exact ⟨_, rfl, fun J rec => step i _ hi J rec⟩) (x0 := (a, (0 : Int32))) rfl
  obtain ⟨rec, q⟩ := h J
  rw [q, stop]

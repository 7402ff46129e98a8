/-! words of the pure programs, and of what the walks say of them -/
def sLen : List Nat := [6, 6, 3, 3, 5, 5]
def sByt : List (List Int32) := [[118, 97, 108, 108, 101, 121], [103, 114, 111, 117, 110, 100], [97, 105, 114], [102, 101, 101], [109, 97, 107, 101, 114], [108, 101, 97, 118, 101]]
/-! the words of the pure programs: a guard, a named number, a call, a join, a loop with fuel -/
def inB (i : Int32) (n : Nat) : Bool := !decide (i < 0) && decide (i.toNatClampNeg < n)
def gd {α : Type} (b : Bool) (k : Option α) : Option α := if b = true then k else none
def lt {α β : Type} (x : α) (k : α → β) : β := k x
def bd {α β : Type} (x : Option α) (k : α → Option β) : Option β := x.bind k
def jn {σ α : Type} (k : σ → Option α) (b : (σ → Option α) → Option α) : Option α := b k
def lp {σ α : Type} (f : (σ → Option α) → σ → Option α) : Nat → σ → Option α
  | 0, _ => none
  | n + 1, x => f (lp f n) x
def FU : Nat := 4096
theorem inB_in {i : Int32} {n : Nat} (h : inB i n = true) : vp_in i n := by
  simp only [inB, Bool.and_eq_true, Bool.not_eq_true', decide_eq_false_iff_not, decide_eq_true_eq] at h
  exact fun q => q.elim h.1 (fun q => absurd h.2 (Nat.not_lt.mpr q))
theorem gd_at {α : Type} {b : Bool} {k : Option α} {r : α} (h : gd b k = some r) : b = true ∧ k = some r := by
  unfold gd at h
  by_cases hb : b = true
  · rw [if_pos hb] at h; exact ⟨hb, h⟩
  · rw [if_neg hb] at h; cases h
theorem bd_at {α β : Type} {x : Option α} {k : α → Option β} {r : β} (h : bd x k = some r) : ∃ v, x = some v ∧ k v = some r := by
  cases x with
  | none => cases h
  | some v => exact ⟨v, rfl, h⟩
theorem lt_at {α β : Type} {e x : α} {k : α → Option β} {r : β} (hx : x = e) (h : lt e k = some r) : k x = some r := by subst hx; exact h
theorem it_t {c : Prop} [Decidable c] {α : Type} {a b : Option α} {r : α} (hc : c) (h : (if c then a else b) = some r) : a = some r := by rw [if_pos hc] at h; exact h
theorem it_f {c : Prop} [Decidable c] {α : Type} {a b : Option α} {r : α} (hc : ¬ c) (h : (if c then a else b) = some r) : b = some r := by rw [if_neg hc] at h; exact h
theorem jn_at {σ α : Type} {G : Prop} {k : σ → Option α} {b : (σ → Option α) → Option α} {r : α} (P : σ → Prop) (h : jn k b = some r) (hk : ∀ x, k x = some r → P x) (hb : ∀ J, (∀ x, J x = some r → P x) → b J = some r → G) : G := hb k hk h
theorem lp_at {σ α : Type} {f : (σ → Option α) → σ → Option α} {r : α} (P : σ → Prop) (step : ∀ rec, (∀ x, rec x = some r → P x) → ∀ x, f rec x = some r → P x) : ∀ (n : Nat) (x : σ), lp f n x = some r → P x := by
  intro n
  induction n with
  | zero => intro x h; cases h
  | succ n ih => intro x h; exact step _ ih x h
theorem tsw_out {x : Int32} {lo hi : Int} (h : ∀ z : Int, lo ≤ z → z ≤ hi → x.toInt = z → False) : x.toInt < lo ∨ hi < x.toInt := by
  by_cases h1 : x.toInt < lo
  · exact Or.inl h1
  · by_cases h2 : hi < x.toInt
    · exact Or.inr h2
    · exact (h x.toInt (by omega) (by omega) rfl).elim
def imF (a b : Nat) : Nat → Option Nat := fun k => if k = 0 then some a else some b
theorem lk_out : ∀ {ps : List (Int × Int)} {d k : Int}, (∀ q ∈ ps, k ≠ q.1) → Op.lookupswitch.offset ps d k = d
  | [], _, _, _ => rfl
  | (a, o) :: r, d, k, h => by
    rw [Op.lookupswitch.offset_cons, if_neg (fun e => h (a, o) List.mem_cons_self e.symm)]
    exact lk_out (fun q hq => h q (List.mem_cons_of_mem _ hq))
def cpOk (sp dp n : Int32) (n0 n1 : Nat) : Bool := decide (¬ sp < 0 ∧ ¬ dp < 0 ∧ ¬ n < 0 ∧ sp.toNatClampNeg + n.toNatClampNeg ≤ n0 ∧ dp.toNatClampNeg + n.toNatClampNeg ≤ n1)
theorem cpOk_at {sp dp n : Int32} {n0 n1 : Nat} (h : cpOk sp dp n n0 n1 = true) : ¬ sp < 0 ∧ ¬ dp < 0 ∧ ¬ n < 0 ∧ sp.toNatClampNeg + n.toNatClampNeg ≤ n0 ∧ dp.toNatClampNeg + n.toNatClampNeg ≤ n1 := of_decide_eq_true h
def isZ (v : Int32) : Bool := decide (v = 0 ∨ v = 1)
theorem isZ_nar {v : Int32} (h : isZ v = true) : narrow .boolean (.int v) = .int v := by
  rcases of_decide_eq_true h with rfl | rfl <;> rfl
def nz (v : Int32) : Bool := decide (¬ v = 0)
theorem nz_at {v : Int32} (h : nz v = true) : ¬ v = 0 := of_decide_eq_true h
def nzL (v : Int64) : Bool := decide (¬ v = 0)
theorem nzL_at {v : Int64} (h : nzL v = true) : ¬ v = 0 := of_decide_eq_true h
theorem tsw {x : Int32} {k : Int} (h : x.toInt = k) : x = Int32.ofInt k := by rw [← h]; exact (Int32.ofInt_toInt x).symm

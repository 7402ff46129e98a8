/-! how many bits -/
def cnt (p : Nat → Bool) : Nat → Nat
  | 0 => 0
  | n + 1 => cnt p n + (if p n = true then 1 else 0)
theorem cnt_congr {p q : Nat → Bool} {n : Nat} (h : ∀ c, c < n → p c = q c) : cnt p n = cnt q n := by
  induction n with
  | zero => rfl
  | succ n ih =>
    show cnt p n + _ = cnt q n + _
    rw [ih fun c hc => h c (by omega), h n (by omega)]
theorem cnt_le (p : Nat → Bool) (n : Nat) : cnt p n ≤ n := by
  induction n with
  | zero => exact Nat.le_refl _
  | succ n ih =>
    show cnt p n + _ ≤ n + 1
    split <;> omega
theorem cnt_add (p : Nat → Bool) (k m : Nat) : cnt p (k + m) = cnt p k + cnt (fun i => p (k + i)) m := by
  induction m with
  | zero => rfl
  | succ m ih =>
    show cnt p (k + m) + (if p (k + m) = true then 1 else 0) = cnt p k + (cnt (fun i => p (k + i)) m + (if p (k + m) = true then 1 else 0))
    rw [ih, Nat.add_assoc]
theorem cnt_none {p : Nat → Bool} {n : Nat} (h : ∀ c, c < n → p c = false) : cnt p n = 0 := by
  induction n with
  | zero => rfl
  | succ n ih =>
    show cnt p n + _ = 0
    rw [ih fun c hc => h c (by omega), h n (by omega)]
    rfl
theorem cnt_cut {p : Nat → Bool} {n m : Nat} (hnm : n ≤ m) (h : ∀ c, n ≤ c → p c = false) : cnt p m = cnt p n := by
  obtain ⟨k, rfl⟩ := Nat.exists_eq_add_of_le hnm
  rw [cnt_add, cnt_none fun c _ => h _ (Nat.le_add_right _ _)]
  rfl
theorem land_cat {a m : Nat} (A M : Nat) (ha : a < 256) (hm : m < 256) : (a + 256 * A) &&& (m + 256 * M) = (a &&& m) + 256 * (A &&& M) := by
  have ham : a &&& m < 256 := Nat.lt_of_le_of_lt Nat.and_le_left ha
  apply Nat.eq_of_testBit_eq
  intro i
  rw [Nat.testBit_and, Nat.add_comm a, Nat.add_comm m, Nat.add_comm (a &&& m)]
  rw [Nat.testBit_two_pow_mul_add (i := 8) A ha, Nat.testBit_two_pow_mul_add (i := 8) M hm, Nat.testBit_two_pow_mul_add (i := 8) (A &&& M) ham]
  split
  · rw [Nat.testBit_and]
  · rw [Nat.testBit_and]
def rep (b : Nat) : Nat → Nat
  | 0 => 0
  | n + 1 => b + 256 * rep b n
def g1 (m x : Nat) : Nat := x - (x / 2 &&& m)
def g2 (m y : Nat) : Nat := (y &&& m) + (y / 4 &&& m)
def g3 (m z : Nat) : Nat := z + z / 16 &&& m
theorem g1_cat {a : Nat} (A M : Nat) (ha : a < 256) : g1 (0x55 + 256 * M) (a + 256 * A) = g1 0x55 a + 256 * g1 M A := by
  have e : (a + 256 * A) / 2 = (a / 2 + 128 * (A % 2)) + 256 * (A / 2) := by omega
  have k : ∀ a, a < 256 → ∀ c, c < 2 → (a / 2 + 128 * c) &&& 0x55 = a / 2 &&& 0x55 := by decide +kernel
  unfold g1
  rw [e, land_cat _ _ (by omega) (by decide), k a ha _ (by omega)]
  have h1 : a / 2 &&& 0x55 ≤ a / 2 := Nat.and_le_left
  have h2 : A / 2 &&& M ≤ A / 2 := Nat.and_le_left
  omega
theorem g2_cat {a : Nat} (A M : Nat) (ha : a < 256) : g2 (0x33 + 256 * M) (a + 256 * A) = g2 0x33 a + 256 * g2 M A := by
  have e : (a + 256 * A) / 4 = (a / 4 + 64 * (A % 4)) + 256 * (A / 4) := by omega
  have k : ∀ a, a < 256 → ∀ c, c < 4 → (a / 4 + 64 * c) &&& 0x33 = a / 4 &&& 0x33 := by decide +kernel
  unfold g2
  rw [e, land_cat _ _ (by omega) (by decide), land_cat _ _ (by omega) (by decide), k a ha _ (by omega)]
  omega
theorem g3_cat {a : Nat} (A M : Nat) (ha : a ≤ 0x44) (hA : A % 16 ≤ 4) : g3 (0x0f + 256 * M) (a + 256 * A) = g3 0x0f a + 256 * g3 M A := by
  have e : (a + 256 * A) + (a + 256 * A) / 16 = (a + a / 16 + 16 * (A % 16)) + 256 * (A + A / 16) := by omega
  have k : ∀ a, a ≤ 0x44 → ∀ c, c ≤ 4 → (a + a / 16 + 16 * c) &&& 0x0f = a + a / 16 &&& 0x0f := by decide +kernel
  unfold g3
  rw [e, land_cat _ _ (by omega) (by decide), k a ha _ hA]
def gg (n x : Nat) : Nat := g2 (rep 0x33 n) (g1 (rep 0x55 n) x)
theorem gg_cat {a : Nat} (n A : Nat) (ha : a < 256) : gg (n + 1) (a + 256 * A) = g2 0x33 (g1 0x55 a) + 256 * gg n A := by
  unfold gg
  show g2 (0x33 + 256 * rep 0x33 n) (g1 (0x55 + 256 * rep 0x55 n) _) = _
  rw [g1_cat A _ ha, g2_cat _ _ (by unfold g1; omega)]
theorem gg_low (n A : Nat) (h : A < 256 ^ n) : gg n A % 16 ≤ 4 := by
  cases n with
  | zero =>
    have : A = 0 := by simpa using h
    subst this
    decide
  | succ n =>
    have e : A = A % 256 + 256 * (A / 256) := by omega
    rw [e, gg_cat n _ (Nat.mod_lt _ (by decide))]
    have k : ∀ a, a < 256 → g2 0x33 (g1 0x55 a) % 16 ≤ 4 := by decide +kernel
    have := k (A % 256) (Nat.mod_lt _ (by decide))
    omega
def g3g (n x : Nat) : Nat := g3 (rep 0x0f n) (gg n x)
theorem g3g_cat {a : Nat} (n A : Nat) (ha : a < 256) (hA : A < 256 ^ n) : g3g (n + 1) (a + 256 * A) = cnt a.testBit 8 + 256 * g3g n A := by
  unfold g3g
  rw [gg_cat n A ha]
  show g3 (0x0f + 256 * rep 0x0f n) _ = _
  have k1 : ∀ a, a < 256 → g2 0x33 (g1 0x55 a) ≤ 0x44 := by decide +kernel
  have k2 : ∀ a, a < 256 → g3 0x0f (g2 0x33 (g1 0x55 a)) = cnt a.testBit 8 := by decide +kernel
  rw [g3_cat _ _ (k1 a ha) (gg_low n A hA), k2 a ha]
theorem cnt_cat {a : Nat} (A n : Nat) (ha : a < 256) : cnt (a + 256 * A).testBit (8 + n) = cnt a.testBit 8 + cnt A.testBit n := by
  have e : ∀ i, (a + 256 * A).testBit i = if i < 8 then a.testBit i else A.testBit (i - 8) := by
    intro i
    rw [Nat.add_comm a, Nat.testBit_two_pow_mul_add (i := 8) A ha]
  rw [cnt_add]
  congr 1
  · exact cnt_congr fun c hc => by rw [e, if_pos hc]
  · exact cnt_congr fun c hc => by rw [e, if_neg (by omega), Nat.add_sub_cancel_left]
theorem byt (n x : Nat) (h : x < 256 ^ (n + 1)) : ∃ a A, a < 256 ∧ A < 256 ^ n ∧ x = a + 256 * A :=
  ⟨x % 256, x / 256, Nat.mod_lt _ (by decide), by
    rw [Nat.div_lt_iff_lt_mul (by decide)]
    rwa [Nat.pow_succ] at h, by omega⟩
theorem fin4 (p q r t : Nat) (hp : p ≤ 5000) (hq : q ≤ 5000) (hr : r ≤ 5000) (ht : t ≤ 5000) : (p + 65536 * (q + 65536 * (r + 65536 * t)) + (p + 65536 * (q + 65536 * (r + 65536 * t))) / 65536 + (p + 65536 * (q + 65536 * (r + 65536 * t)) + (p + 65536 * (q + 65536 * (r + 65536 * t))) / 65536) / 4294967296) % 128 = (p + q + r + t) % 128 := by
  have e1 : (p + 65536 * (q + 65536 * (r + 65536 * t))) / 65536 = q + 65536 * (r + 65536 * t) := by omega
  rw [e1]
  have e2 : p + 65536 * (q + 65536 * (r + 65536 * t)) + (q + 65536 * (r + 65536 * t)) = ((p + q) + 65536 * (q + r)) + 4294967296 * ((r + t) + 65536 * t) := by omega
  rw [e2]
  have e3 : (((p + q) + 65536 * (q + r)) + 4294967296 * ((r + t) + 65536 * t)) / 4294967296 = (r + t) + 65536 * t := by
    rw [Nat.add_mul_div_left _ _ (by decide), Nat.div_eq_of_lt (by omega), Nat.zero_add]
  rw [e3]
  omega
theorem up1 {a b A : Nat} (ha : a < 256) : (a + 256 * A) / 256 = A := by omega
theorem fin8 (c0 c1 c2 c3 c4 c5 c6 c7 : Nat) (b0 : c0 ≤ 8) (b1 : c1 ≤ 8) (b2 : c2 ≤ 8) (b3 : c3 ≤ 8) (b4 : c4 ≤ 8) (b5 : c5 ≤ 8) (b6 : c6 ≤ 8) (b7 : c7 ≤ 8) : let y := (c0 + 256 * (c1 + 256 * (c2 + 256 * (c3 + 256 * (c4 + 256 * (c5 + 256 * (c6 + 256 * (c7 + 256 * 0)))))))); let y4 := y + y / 256; let y5 := y4 + y4 / 65536; y < 2 ^ 60 ∧ (y5 + y5 / 4294967296) % 128 = c0 + (c1 + (c2 + (c3 + (c4 + (c5 + (c6 + (c7 + 0))))))) := by
  have h1 : (c0 + 256 * (c1 + 256 * (c2 + 256 * (c3 + 256 * (c4 + 256 * (c5 + 256 * (c6 + 256 * (c7 + 256 * 0)))))))) < 2 ^ 60 := by omega
  refine ⟨h1, ?_⟩
  have h2 : (c0 + 256 * (c1 + 256 * (c2 + 256 * (c3 + 256 * (c4 + 256 * (c5 + 256 * (c6 + 256 * (c7 + 256 * 0)))))))) / 256 = (c1 + 256 * (c2 + 256 * (c3 + 256 * (c4 + 256 * (c5 + 256 * (c6 + 256 * (c7 + 256 * 0))))))) := up1 (b := 0) (by omega)
  have h3 : (c0 + 256 * (c1 + 256 * (c2 + 256 * (c3 + 256 * (c4 + 256 * (c5 + 256 * (c6 + 256 * (c7 + 256 * 0)))))))) + (c1 + 256 * (c2 + 256 * (c3 + 256 * (c4 + 256 * (c5 + 256 * (c6 + 256 * (c7 + 256 * 0))))))) = ((c0 + c1) + 256 * (c1 + c2)) + 65536 * (((c2 + c3) + 256 * (c3 + c4)) + 65536 * (((c4 + c5) + 256 * (c5 + c6)) + 65536 * ((c6 + c7) + 256 * c7))) := by
    clear h1 h2
    omega
  rw [h2, h3, fin4 _ _ _ _ (by clear h1 h2 h3; omega) (by clear h1 h2 h3; omega) (by clear h1 h2 h3; omega) (by clear h1 h2 h3; omega)]
  clear h1 h2 h3
  omega
theorem pop64 (x : Nat) (h : x < 2 ^ 64) : let y := g3g 8 x; let y4 := y + y / 256; let y5 := y4 + y4 / 65536; y < 2 ^ 60 ∧ (y5 + y5 / 4294967296) % 128 = cnt x.testBit 64 := by
  obtain ⟨a0, x1, h0, hx, rfl⟩ := byt 7 x h
  obtain ⟨a1, x2, h1, hx1, rfl⟩ := byt 6 x1 hx
  obtain ⟨a2, x3, h2, hx2, rfl⟩ := byt 5 x2 hx1
  obtain ⟨a3, x4, h3, hx3, rfl⟩ := byt 4 x3 hx2
  obtain ⟨a4, x5, h4, hx4, rfl⟩ := byt 3 x4 hx3
  obtain ⟨a5, x6, h5, hx5, rfl⟩ := byt 2 x5 hx4
  obtain ⟨a6, x7, h6, hx6, rfl⟩ := byt 1 x6 hx5
  obtain ⟨a7, x8, h7, hx7, rfl⟩ := byt 0 x7 hx6
  rw [g3g_cat 7 _ h0 hx, g3g_cat 6 _ h1 hx1, g3g_cat 5 _ h2 hx2, g3g_cat 4 _ h3 hx3, g3g_cat 3 _ h4 hx4, g3g_cat 2 _ h5 hx5, g3g_cat 1 _ h6 hx6, g3g_cat 0 _ h7 hx7]
  have z : x8 = 0 := by simpa using hx7
  subst z
  rw [show g3g 0 0 = 0 from rfl]
  rw [show (64 : Nat) = 8 + (8 + (8 + (8 + (8 + (8 + (8 + (8 + 0))))))) from rfl]
  rw [cnt_cat _ _ h0, cnt_cat _ _ h1, cnt_cat _ _ h2, cnt_cat _ _ h3, cnt_cat _ _ h4, cnt_cat _ _ h5, cnt_cat _ _ h6, cnt_cat _ _ h7]
  rw [show cnt (0 : Nat).testBit 0 = 0 from rfl]
  exact fin8 _ _ _ _ _ _ _ _ (cnt_le _ 8) (cnt_le _ 8) (cnt_le _ 8) (cnt_le _ 8) (cnt_le _ 8) (cnt_le _ 8) (cnt_le _ 8) (cnt_le _ 8)
theorem jl_count (x : Int64) : f_JL_bitCount x = some (nI (cnt (tb x) 64)) := by
  have hm : ∀ (z : Int64) (k : Nat), k < 64 → ((z.toUInt64 >>> ((nI k).toInt64.toUInt64 &&& Int64.toUInt64 63)).toInt64).toBitVec.toNat = z.toBitVec.toNat / 2 ^ k := by
    intro z k hk
    have e : ∀ k, k < 64 → (((nI k).toInt64.toUInt64 &&& Int64.toUInt64 63).toBitVec % 64).toNat = k := by decide +kernel
    rw [UInt64.toBitVec_toInt64, UInt64.toBitVec_shiftRight, BitVec.ushiftRight_eq', BitVec.toNat_ushiftRight, e k hk, Nat.shiftRight_eq_div_pow]
    rfl
  unfold f_JL_bitCount
  simp only [ltE, zI]
  have hX : x.toBitVec.toNat < 2 ^ 64 := x.toBitVec.isLt
  generalize hx1 : x - _ = x1
  have e1 : x1.toBitVec.toNat = g1 (rep 0x55 8) x.toBitVec.toNat := by
    rw [← hx1, Int64.toBitVec_sub, BitVec.toNat_sub, Int64.toBitVec_and, BitVec.toNat_and, hm _ 1 (by decide)]
    have q : x.toBitVec.toNat / 2 &&& 6148914691236517205 ≤ x.toBitVec.toNat / 2 := Nat.and_le_left
    have q2 : ∀ X M : Nat, X < 2 ^ 64 → M ≤ X / 2 → (2 ^ 64 - M + X) % 2 ^ 64 = X - M := by
      intro X M h1 h2
      omega
    exact q2 _ _ hX q
  have b1 : x1.toBitVec.toNat < 2 ^ 64 := x1.toBitVec.isLt
  clear hx1
  generalize hx2 : (x1 &&& _) + _ = x2
  have e2 : x2.toBitVec.toNat = gg 8 x.toBitVec.toNat := by
    rw [← hx2, Int64.toBitVec_add, BitVec.toNat_add, Int64.toBitVec_and, BitVec.toNat_and, Int64.toBitVec_and, BitVec.toNat_and, hm _ 2 (by decide)]
    show ((x1.toBitVec.toNat &&& 3689348814741910323) + (x1.toBitVec.toNat / 2 ^ 2 &&& 3689348814741910323)) % 2 ^ 64 = g2 (rep 0x33 8) (g1 (rep 0x55 8) x.toBitVec.toNat)
    rw [← e1]
    show _ = (x1.toBitVec.toNat &&& 3689348814741910323) + (x1.toBitVec.toNat / 4 &&& 3689348814741910323)
    have : x1.toBitVec.toNat / 2 ^ 2 &&& 3689348814741910323 ≤ 3689348814741910323 := Nat.and_le_right
    have : x1.toBitVec.toNat &&& 3689348814741910323 ≤ 3689348814741910323 := Nat.and_le_right
    exact Nat.mod_eq_of_lt (by omega)
  clear hx2
  obtain ⟨q1, q2⟩ := pop64 x.toBitVec.toNat hX
  have c4 : gg 8 x.toBitVec.toNat < 2 ^ 63 := by
    rw [← e2]
    have : gg 8 x.toBitVec.toNat ≤ 3689348814741910323 + 3689348814741910323 := by
      unfold gg g2
      exact Nat.add_le_add Nat.and_le_right Nat.and_le_right
    omega
  generalize hx3 : (x2 + _) &&& _ = x3
  have e3 : x3.toBitVec.toNat = g3g 8 x.toBitVec.toNat := by
    rw [← hx3, Int64.toBitVec_and, BitVec.toNat_and, Int64.toBitVec_add, BitVec.toNat_add, hm _ 4 (by decide), e2]
    show ((gg 8 x.toBitVec.toNat + gg 8 x.toBitVec.toNat / 2 ^ 4) % 2 ^ 64) &&& 1085102592571150095 = gg 8 x.toBitVec.toNat + gg 8 x.toBitVec.toNat / 16 &&& 1085102592571150095
    rw [Nat.mod_eq_of_lt (by omega)]
  clear hx3
  have r : ∀ (y : Int64) (k N : Nat), k < 64 → 0 < k → y.toBitVec.toNat = N → N < 2 ^ 62 → (y + ((y.toUInt64 >>> ((nI k).toInt64.toUInt64 &&& Int64.toUInt64 63)).toInt64)).toBitVec.toNat = N + N / 2 ^ k := by
    intro y k N hk h0 hy hN
    rw [Int64.toBitVec_add, BitVec.toNat_add, hm _ k hk, hy]
    have : N / 2 ^ k ≤ N := Nat.div_le_self _ _
    exact Nat.mod_eq_of_lt (by omega)
  have e4 := r x3 8 _ (by decide) (by decide) e3 (by omega)
  generalize hx4 : x3 + _ = x4 at *
  have e5 := r x4 16 _ (by decide) (by decide) e4 (by omega)
  generalize hx5 : x4 + _ = x5 at *
  have e6 := r x5 32 _ (by decide) (by decide) e5 (by omega)
  generalize hx6 : x5 + _ = x6 at *
  congr 1
  have q3 : x6.toBitVec.toNat % 128 = cnt (tb x) 64 := by
    rw [e6]
    exact q2
  have hb := cnt_le (tb x) 64
  apply Int32.toBitVec_inj.mp
  apply BitVec.eq_of_toNat_eq
  rw [Int32.toBitVec_and, BitVec.toNat_and]
  show (x6.toInt32.toBitVec.toNat) &&& 127 = _
  rw [show (127 : Nat) = 2 ^ 7 - 1 from rfl, Nat.and_two_pow_sub_one_eq_mod]
  have : x6.toInt32.toBitVec.toNat = x6.toBitVec.toNat % 2 ^ 32 := by
    rw [Int64.toBitVec_toInt32, BitVec.signExtend_eq_setWidth_of_le _ (by decide), BitVec.toNat_setWidth]
  rw [this]
  have k : (nI (cnt (tb x) 64)).toBitVec.toNat = cnt (tb x) 64 := by
    have : ∀ k, k ≤ 64 → (nI k).toBitVec.toNat = k := by decide +kernel
    exact this _ hb
  rw [k]
  omega

/-! the class' sound -/
def kCost (kd : Nat) (hedge : Bool) : Nat := if hedge then (if kd = 1 ∨ kd = 4 then 2 else if kd = 5 then 1 else 0) else (if kd = 2 ∨ kd = 3 then 2 else 1)
def kFree (kd : Nat) : Nat := if kd = 4 then 3 else if kd = 5 then 20 else 0
theorem kCost_lt (kd : Nat) (h : Bool) : kCost kd h < 10 := by
  unfold kCost
  cases h
  · by_cases q : kd = 2 ∨ kd = 3 <;> simp [q]
  · by_cases q : kd = 1 ∨ kd = 4
    · simp [q]
    · by_cases q2 : kd = 5 <;> simp [q, q2]
theorem lessByStep_eq {kd : Nat} (h : kd < 6) : f_Sd_lessByStep (nI kd) = some (nI (kCost kd false)) := by
  have : kd = 0 ∨ kd = 1 ∨ kd = 2 ∨ kd = 3 ∨ kd = 4 ∨ kd = 5 := by omega
  rcases this with rfl | rfl | rfl | rfl | rfl | rfl <;> rfl
theorem lessFromHedge_eq {kd : Nat} (h : kd < 6) : f_Sd_lessFromHedge (nI kd) = some (nI (kCost kd true)) := by
  have : kd = 0 ∨ kd = 1 ∨ kd = 2 ∨ kd = 3 ∨ kd = 4 ∨ kd = 5 := by omega
  rcases this with rfl | rfl | rfl | rfl | rfl | rfl <;> rfl
theorem freeUpTo_eq {kd : Nat} (h : kd < 6) : f_Sd_freeUpTo (nI kd) = some (nI (kFree kd)) := by
  have : kd = 0 ∨ kd = 1 ∨ kd = 2 ∨ kd = 3 ∨ kd = 4 ∨ kd = 5 := by omega
  rcases this with rfl | rfl | rfl | rfl | rfl | rfl <;> rfl
/-- the class' picture of the valley, for its sounds -/
def SW (v : Nat → Nat) (W : Int32) (ev fc lc : Int64) (MK LV : Int32) (gr ar : Nat → Int64) (ki ce se pa : Nat → Int32) : Prop :=
  Geo (v 0) (v 0 * v 1) W ev fc lc ∧ SV v MK LV ar se pa ∧ RS 3 (v 0 * v 1) gr (fun c => v (2 + c)) ∧ ∀ i, i < v 122 → ki i = nI (v (123 + 4 * i)) ∧ v (123 + 4 * i) < 6 ∧ ce i = nI (v (124 + 4 * i)) ∧ v (124 + 4 * i) < v 0 * v 1
/-- by how much a sound of that kind is less from a cell -/
def cst (v : Nat → Nat) (kd : Nat) (c : Nat) : Nat := kCost kd (decide (v (2 + c) = 1))
/-- where and how loud a sound may come -/
def mayD (v : Nat → Nat) (hr g b fr m : Nat) (l c : Nat) : Prop := c < v 0 * v 1 ∧ ¬ (v (123 + 4 * m) = 3 ∧ v (2 + c) = 1) ∧ (l ≤ fr ∨ v (38 + c) = v (125 + 4 * m) ∨ b.testBit (v (38 + c)) = true ∨ LPv v hr g (fun j => v (148 + 5 * j) = m) l (v (38 + c)))
def mayE (v : Nat → Nat) (hr g b m o : Nat) (l c : Nat) : Prop := c < v 0 * v 1 ∧ (v (38 + c) = o ∨ (b.testBit (v (38 + c)) = true ∧ o = v (125 + 4 * m)) ∨ LPv v hr g (fun j => v (125 + 4 * v (148 + 5 * j)) = o) l (v (38 + c)))
/-- a sound's straight ways -/
def snd (v : Nat → Nat) (hr g b fr m ld : Nat) : Nat → Nat → Prop := prc (v 0) (v 0 * v 1) (cst v (v (123 + 4 * m))) (mayD v hr g b fr m) 20 (fun l c => l = ld ∧ c = v (124 + 4 * m))
/-- what a cliff of an owner gives back, from so loud on -/
def ech (v : Nat → Nat) (hr g b m : Nat) (c0 l0 : Nat) : Nat → Nat → Prop := prc (v 0) (v 0 * v 1) (cst v 0) (mayE v hr g b m (v (38 + c0))) 20 (fun l c => l = l0 ∧ c = c0)
theorem prc_may {w n : Nat} {cost : Nat → Nat} {may may' : Nat → Nat → Prop} : ∀ (u : Nat), u ≤ 21 → ∀ {X : Nat → Nat → Prop}, (∀ l c, 1 ≤ l → l < u → c < n → (may l c ↔ may' l c)) → ∀ l c, prc w n cost may u X l c ↔ prc w n cost may' u X l c
  | 0, _, _, _ => fun _ _ => Iff.rfl
  | u + 1, hu, X, h => fun l c => by
    show prc w n cost may u (stp w n cost may (u + 1) X) l c ↔ prc w n cost may' u (stp w n cost may' (u + 1) X) l c
    rw [prc_may u (by omega) (X := stp w n cost may (u + 1) X) (fun l c a b d => h l c a (by omega) d) l c]
    refine prc_congr u (fun l d => ?_) l c
    constructor
    · rintro (q | ⟨a, b, e, d1, d2, d3, d4⟩)
      · exact Or.inl q
      · exact Or.inr ⟨a, (h l d a (by omega) d1.2.1).mp b, e, d1, d2, d3, d4⟩
    · rintro (q | ⟨a, b, e, d1, d2, d3, d4⟩)
      · exact Or.inl q
      · exact Or.inr ⟨a, (h l d a (by omega) d1.2.1).mpr b, e, d1, d2, d3, d4⟩
theorem vpu_id {f : Nat → Int64} {k : Nat} : vp_updL f k (f k) = f := by
  funext j
  unfold vp_updL
  split
  · rename_i h; rw [h]
  · rfl
theorem vpu_two {f : Nat → Int64} {k : Nat} {x y : Int64} : vp_updL (vp_updL f k x) k y = vp_updL f k y := by
  funext j
  unfold vp_updL
  split <;> rfl
theorem kind_eq {MK : Nat} {m : Nat} (ki : Nat → Int32) (h : m < MK) (hk : MK ≤ 6) : f_Sd_kind (nI MK) (nI m) ki = some (ki m) := by
  unfold f_Sd_kind
  rw [if_neg (nI_pos (by omega)), if_neg (nI_ge h (by omega)), gd_nI (by omega) (by omega), nI_clamp (by omega)]
theorem place_eq {MK : Nat} {m k : Nat} (ce : Nat → Int32) (h : m < MK) (hk : MK ≤ 6) (hc : ce m = nI k) : f_Sd_place (nI MK) (nI m) ce = some ((1 : Int64) <<< ((nI k).toInt64 &&& 63)) := by
  unfold f_Sd_place
  rw [if_neg (nI_pos (by omega)), if_neg (nI_ge h (by omega)), gd_nI (by omega) (by omega), nI_clamp (by omega), hc]
theorem goStraight_eq {v : Nat → Nat} {W : Int32} {ev fc lc : Int64} {MK LV : Int32} {gr ar : Nat → Int64} {ki ce se pa : Nat → Int32} (S : SW v W ev fc lc MK LV gr ar ki ce se pa) {m ld hr b g fr : Nat} (hm : m < v 122) (hl : 1 ≤ ld) (hl2 : ld ≤ 20) (hhr : hr < 24) (hb : b < 64) (hg : g < 256) (hfr : fr ≤ 20) (hfr0 : v (123 + 4 * m) = 5 → fr = 20) (may ways : Nat → Int64) :
    ∃ may' ways' st, f_Sd_goStraight W ev fc lc MK LV (nI m) (nI ld) (nI hr) (nI b) (nI g) gr ar ki ce se pa may ways (nI fr) = some (may', ways', st) ∧ (∀ l c, XO ways' l c ↔ snd v hr g b fr m ld l c) ∧ (∀ c, c < 64 → (tb st c = true ↔ ∃ l, snd v hr g b fr m ld l c)) := by
  obtain ⟨hG, hS, hgr, hki⟩ := S
  have hS' := hS
  obtain ⟨hmk, rfl, rfl, hse, hpa, hwf, hair, hRS⟩ := hS
  obtain ⟨k1, k2, k3, k4⟩ := hki m hm
  have hn : v 0 * v 1 ≤ 36 := hG.2.2.1
  simp only [f_Sd_goStraight]
  rw [bd_some (kind_eq ki hm hmk), bd_some (selfOf_eq se hm hmk), k1, (hse m hm).1]
  obtain ⟨x5, ha1, ha2⟩ := allow_eq hS' (o := v (125 + 4 * m)) (sv := fun j => v (148 + 5 * j) = m) (p2 := nI m) hm (hse m hm).2 hhr hb hg may (fun j hj => Or.inr ⟨m, by omega, rfl, Iff.rfl⟩)
  rw [bd_some ha1, jnE]
  -- where nobody is asked, and hedges
  obtain ⟨⟨a, y⟩, rec, ⟨e, hy⟩, hrun⟩ := lp_inv (f := f_Sd_goStraight_L26 ev gr (nI fr) (nI (v (123 + 4 * m))) (fun x7 => bd (f_JA_fillJ 21 ways 0) fun x8 => jn (fun x10 => bd (f_Sd_lessByStep (nI (v (123 + 4 * m)))) fun x11 => bd (f_Sd_lessFromHedge (nI (v (123 + 4 * m)))) fun x13 => bd (f_Sd_spread W ev fc lc 21 gr x7 x10 x11 x13) fun x15 => bd (f_Sd_union 21 x15) fun x17 => some (x7, x15, x17)) fun J121 => if nI ld < 1 then J121 x8 else if 20 < nI ld then J121 x8 else bd (f_Sd_place (nI (v 122)) (nI m) ce) fun x19 => gd (inB (nI ld) 21) <| lt (vp_updL x8 (nI ld).toNatClampNeg x19) fun x21 => J121 x21))
    (fun i (y : Int32 × (Nat → Int64)) => y.1 = nI (i + 1) ∧ ∀ l, 1 ≤ l → l ≤ 20 → ∀ c, c < 64 → (tb (y.2 l) c = true ↔ if l < i + 1 then mayD v hr g b fr m l c else tb (x5 l) c = true)) 20 (by decide) (by
      rintro i ⟨a, y⟩ hi ⟨e, hy⟩
      simp only at e hy
      subst e
      -- the level's set behind both tests
      have hlev : ∃ z : Int64, (∀ rec : Int32 × (Nat → Int64) → Option ((Nat → Int64) × (Nat → Int64) × Int64), f_Sd_goStraight_L26 ev gr (nI fr) (nI (v (123 + 4 * m))) (fun x7 => bd (f_JA_fillJ 21 ways 0) fun x8 => jn (fun x10 => bd (f_Sd_lessByStep (nI (v (123 + 4 * m)))) fun x11 => bd (f_Sd_lessFromHedge (nI (v (123 + 4 * m)))) fun x13 => bd (f_Sd_spread W ev fc lc 21 gr x7 x10 x11 x13) fun x15 => bd (f_Sd_union 21 x15) fun x17 => some (x7, x15, x17)) fun J121 => if nI ld < 1 then J121 x8 else if 20 < nI ld then J121 x8 else bd (f_Sd_place (nI (v 122)) (nI m) ce) fun x19 => gd (inB (nI ld) 21) <| lt (vp_updL x8 (nI ld).toNatClampNeg x19) fun x21 => J121 x21) rec (nI (i + 1), y) = rec (nI (i + 2), vp_updL y (i + 1) z)) ∧ ∀ c, c < 64 → (tb z c = true ↔ mayD v hr g b fr m (i + 1) c) := by
        refine ⟨if v (123 + 4 * m) = 3 then (if i + 1 ≤ fr then ev else y (i + 1)) &&& (gr 1 ^^^ (-1)) else (if i + 1 ≤ fr then ev else y (i + 1)), fun rec => ?_, fun c hc => ?_⟩
        · simp only [f_Sd_goStraight_L26]
          rw [show (20 : Int32) = nI 20 from rfl, if_neg (nI_nlt (by omega) (by omega)), jnE, show (3 : Int32) = nI 3 from rfl, show (1 : Int32) = nI 1 from rfl, nI_clamp (by omega), nI_clamp (by omega)]
          have hlast : ∀ Y : Nat → Int64, (jn (fun x25 => lt (nI (i + 1) + nI 1) fun x26 => rec (x26, x25)) fun J77 => if nI (v (123 + 4 * m)) = nI 3 then gd (inB (nI (i + 1)) 21) <| gd (inB (nI (i + 1)) 21) <| lt (vp_updL Y (i + 1) (Y (i + 1) &&& (gr 1 ^^^ (-1)))) fun x27 => J77 x27 else J77 Y) = rec (nI (i + 2), vp_updL Y (i + 1) (if v (123 + 4 * m) = 3 then Y (i + 1) &&& (gr 1 ^^^ (-1)) else Y (i + 1))) := by
            intro Y
            rw [jnE]
            by_cases q : v (123 + 4 * m) = 3
            · rw [q, if_pos rfl, gd_nI (by omega) (by omega), gd_nI (by omega) (by omega), if_pos rfl, ltE]
              dsimp only
              rw [ltE, nI_add]
            · rw [if_neg (fun z => q ((nI_eq (by omega) (by omega)).mp z)), if_neg q, vpu_id]
              dsimp only
              rw [ltE, nI_add]
          by_cases q : i + 1 ≤ fr
          · rw [if_neg (nI_nlt q (by omega)), gd_nI (by omega) (by omega), ltE]
            dsimp only
            rw [hlast, vpu_same, vpu_two, if_pos q]
          · rw [if_pos (nI_lt (by omega) (by omega))]
            dsimp only
            rw [hlast, if_neg q]
        · have hbase : tb (if i + 1 ≤ fr then ev else y (i + 1)) c = true ↔ c < v 0 * v 1 ∧ (i + 1 ≤ fr ∨ v (38 + c) = v (125 + 4 * m) ∨ b.testBit (v (38 + c)) = true ∨ LPv v hr g (fun j => v (148 + 5 * j) = m) (i + 1) (v (38 + c))) := by
            by_cases q : i + 1 ≤ fr
            · rw [if_pos q, hG.2.2.2.2.1 c hc]
              simp [q]
            · rw [if_neg q, hy (i + 1) (by omega) (by omega) c hc, if_neg (by omega), ha2 (i + 1) (by omega) (by omega) c hc]
              simp [q]
          unfold mayD
          by_cases q : v (123 + 4 * m) = 3
          · rw [if_pos q, tb_and, Bool.and_eq_true, hbase, tb_not _ hc]
            have h1 := hgr.at (k := 1) (c := c) (by decide) hc
            constructor
            · rintro ⟨⟨z1, z2⟩, z3⟩
              refine ⟨z1, fun z => ?_, z2⟩
              rw [h1.mpr ⟨z1, z.2⟩] at z3
              cases z3
            · rintro ⟨z1, z3, z2⟩
              refine ⟨⟨z1, z2⟩, ?_⟩
              have : ¬ tb (gr 1) c = true := fun z => z3 ⟨q, (h1.mp z).2⟩
              simpa using this
          · rw [if_neg q, hbase]
            constructor
            · rintro ⟨z1, z2⟩
              exact ⟨z1, fun z => q z.1, z2⟩
            · rintro ⟨z1, _, z2⟩
              exact ⟨z1, z2⟩
      obtain ⟨z, hz1, hz2⟩ := hlev
      refine ⟨(nI (i + 2), vp_updL y (i + 1) z), ⟨rfl, fun l l1 l2 c hc => ?_⟩, fun rec => hz1 rec⟩
      dsimp only
      by_cases el : l = i + 1
      · subst el
        rw [vpu_same, hz2 c hc, if_pos (by omega)]
      · rw [vpu_ne el, hy l l1 l2 c hc]
        by_cases q : l < i + 1
        · rw [if_pos q, if_pos (by omega)]
        · rw [if_neg q, if_neg (by omega)])
    (x0 := (1, x5)) ⟨rfl, fun l l1 l2 c hc => by dsimp only; rw [if_neg (by omega)]⟩
  simp only at e hy
  subst e
  rw [hrun]
  simp only [f_Sd_goStraight_L26]
  rw [if_pos (by decide), bd_some (fillJ_eq 21 (by decide) ways 0), jnE]
  rw [show (1 : Int32) = nI 1 from rfl, if_neg (nI_nlt hl (by omega)), show (20 : Int32) = nI 20 from rfl, if_neg (nI_nlt hl2 (by omega)), bd_some (place_eq ce hm hmk k3), gd_nI (by omega) (by omega), nI_clamp (by omega), ltE]
  dsimp only
  rw [bd_some (lessByStep_eq k2), bd_some (lessFromHedge_eq k2)]
  obtain ⟨r, hr1, hr2⟩ := spread_eq hG hgr y (vp_updL (fun j => if j < 21 then 0 else ways j) ld ((1 : Int64) <<< ((nI (v (124 + 4 * m))).toInt64 &&& 63))) (k1 := kCost (v (123 + 4 * m)) false) (k2 := kCost (v (123 + 4 * m)) true) (by
      rintro l c ⟨q1, q2, q3, q4⟩
      by_cases e : l = ld
      · subst e
        rw [vpu_same, tb_one (by omega)] at q4
        have : c = v (124 + 4 * m) := of_decide_eq_true q4
        omega
      · rw [vpu_ne e, if_pos q2, tb_0] at q4
        cases q4) (kCost_lt _ _) (kCost_lt _ _)
  obtain ⟨st, hu1, hu2⟩ := union_eq r
  rw [bd_some hr1, bd_some hu1]
  have hX : ∀ l c, XO r l c ↔ snd v hr g b fr m ld l c := by
    intro l c
    rw [hr2 l c]
    unfold snd
    have hc0 : (fun c => if (fun c => v (2 + c)) c = 1 then kCost (v (123 + 4 * m)) true else kCost (v (123 + 4 * m)) false) = cst v (v (123 + 4 * m)) := by
      funext c
      unfold cst
      by_cases q : v (2 + c) = 1 <;> simp [q]
    rw [hc0, prc_may 20 (by decide) (may' := mayD v hr g b fr m) (fun l c l1 l2 hc => by rw [hy l l1 (by omega) c (by omega), if_pos (by omega)]) l c]
    refine prc_congr 20 (fun l c => ?_) l c
    constructor
    · rintro ⟨q1, q2, q3, q4⟩
      by_cases e : l = ld
      · subst e
        rw [vpu_same, tb_one (by omega)] at q4
        exact ⟨rfl, of_decide_eq_true q4⟩
      · rw [vpu_ne e, if_pos q2, tb_0] at q4
        cases q4
    · rintro ⟨rfl, rfl⟩
      exact ⟨by omega, by omega, by omega, by rw [vpu_same, tb_one (by omega)]; simp⟩
  exact ⟨y, r, st, rfl, hX, fun c hc => by rw [hu2 c hc]; exact ⟨fun ⟨l, q⟩ => ⟨l, (hX l c).mp q⟩, fun ⟨l, q⟩ => ⟨l, (hX l c).mpr q⟩⟩⟩
/-- the level at which a cell is heard: the loudest of its levels -/
def top (X : Nat → Nat → Prop) (c L : Nat) : Prop := X L c ∧ ∀ l, X l c → l ≤ L
/-- echoes of the cliffs of a set, each half as loud as its loudest level -/
def halfs (X : Nat → Nat → Prop) (of : Nat → Prop) : Nat → Nat → Prop := fun l c => of c ∧ ∃ L, 2 ≤ L ∧ top X c L ∧ l = L / 2
theorem giveBack_eq {v : Nat → Nat} {W : Int32} {ev fc lc : Int64} {MK LV : Int32} {gr ar : Nat → Int64} {ki ce se pa : Nat → Int32} (S : SW v W ev fc lc MK LV gr ar ki ce se pa) {m hr b g o : Nat} (hm : m < v 122) (ho : o < 6) (hhr : hr < 24) (hb : b < 64) (hg : g < 256) (may ways echo echoes : Nat → Int64) {of : Int64} (hof : ∀ c, c < 64 → tb of c = true → c < v 0 * v 1) :
    ∃ may' echo' echoes', f_Sd_giveBack W ev fc lc MK LV (nI m) (nI hr) (nI b) (nI g) gr ar se pa may ways echo echoes of (nI o) = some (may', echo', echoes') ∧ ∀ l c, XO echoes' l c ↔ XO echoes l c ∨ prc (v 0) (v 0 * v 1) (cst v 0) (mayE v hr g b m o) 20 (halfs (XO ways) (fun c => c < 64 ∧ tb of c = true)) l c := by
  obtain ⟨hG, hS, hgr, hki⟩ := S
  have hn : v 0 * v 1 ≤ 36 := hG.2.2.1
  simp only [f_Sd_giveBack]
  by_cases h0 : of = 0
  · refine ⟨may, echo, echoes, by rw [if_pos (lg0.mpr h0)], fun l c => ⟨Or.inl, ?_⟩⟩
    rintro (q | q)
    · exact q
    · exfalso
      have hemp : ∀ l c, halfs (XO ways) (fun c => c < 64 ∧ tb of c = true) l c → False := by
        rintro l c ⟨⟨_, q⟩, _⟩
        rw [h0, tb_0] at q
        cases q
      have : ∀ u l c, prc (v 0) (v 0 * v 1) (cst v 0) (mayE v hr g b m o) u (fun _ _ => False) l c → False := by
        intro u
        induction u with
        | zero => exact fun _ _ h => h
        | succ u ih =>
          intro l c h
          refine ih l c (prc_mono (fun _ _ h => h) u ?_ l c h)
          rintro l c (q | ⟨_, _, _, _, q, _⟩)
          · exact q
          · exact q
      exact this 20 l c (prc_mono (fun _ _ h => h) 20 hemp l c q)
  · rw [if_neg (fun q => h0 (lg0.mp q)), bd_some (fillJ_eq 21 (by decide) echo 0), jnE]
    obtain ⟨⟨x, a, y⟩, rec, ⟨e, hx, hy⟩, hrun⟩ := lp_inv (f := f_Sd_giveBack_L22 ways (fun x3 => bd (f_Sd_allow MK LV (nI m) (nI hr) (nI b) (nI g) ar se pa may (nI o) (-1)) fun x4 => bd (f_Sd_spread W ev fc lc 21 gr x4 x3 1 0) fun x6 => lp (f_Sd_giveBack_L91 x4 x6) FU (1, echoes)))
      (fun i (y : Int64 × Int32 × (Nat → Int64)) => y.2.1 = nI (20 - i) ∧ (∀ c, c < 64 → (tb y.1 c = true ↔ tb of c = true ∧ ∀ l, 20 - i < l → ¬ XO ways l c)) ∧ ∀ l c, XO y.2.2 l c ↔ l < 21 ∧ (c < 64 ∧ tb of c = true) ∧ ∃ L, 2 ≤ L ∧ 20 - i < L ∧ top (XO ways) c L ∧ l = L / 2) 19 (by decide) (by
        rintro i ⟨x, a, y⟩ hi ⟨e, hx, hy⟩
        simp only at e hx hy
        subst e
        obtain ⟨u, hu⟩ : ∃ u, 20 - i = u + 2 := ⟨18 - i, by omega⟩
        have hu2 : 20 - (i + 1) = u + 1 := by omega
        rw [hu] at hx hy
        rw [hu, hu2]
        have hdiv : nI (u + 2) / 2 = nI ((u + 2) / 2) := pk_div (by omega) (by decide) (by decide)
        refine ⟨(x &&& (ways (u + 2) ^^^ (-1)), nI (u + 1), vp_updL y ((u + 2) / 2) (y ((u + 2) / 2) ||| (ways (u + 2) &&& x))), ⟨rfl, fun c hc => ?_, fun l c => ?_⟩, fun rec => ?_⟩
        · dsimp only
          rw [tb_and, Bool.and_eq_true, hx c hc, tb_not _ hc]
          constructor
          · rintro ⟨⟨z1, z2⟩, z3⟩
            refine ⟨z1, fun l hl hX => ?_⟩
            by_cases q : l = u + 2
            · subst q
              rw [hX.2.2.2] at z3
              cases z3
            · exact z2 l (by omega) hX
          · rintro ⟨z1, z2⟩
            refine ⟨⟨z1, fun l hl => z2 l (by omega)⟩, ?_⟩
            have : ¬ tb (ways (u + 2)) c = true := fun q => z2 (u + 2) (by omega) ⟨by omega, by omega, hc, q⟩
            simpa using this
        · dsimp only
          have htop : c < 64 → (tb (ways (u + 2) &&& x) c = true ↔ tb of c = true ∧ top (XO ways) c (u + 2)) := by
            intro hc
            rw [tb_and, Bool.and_eq_true, hx c hc]
            constructor
            · rintro ⟨z1, z2, z3⟩
              refine ⟨z2, ⟨by omega, by omega, hc, z1⟩, fun l hX => ?_⟩
              rcases Nat.lt_or_ge (u + 2) l with q | q
              · exact absurd hX (z3 l q)
              · exact q
            · rintro ⟨z1, z2, z3⟩
              exact ⟨z2.2.2.2, z1, fun l hl hX => by have := z3 l hX; omega⟩
          constructor
          · rintro ⟨q1, q2, q3, q4⟩
            by_cases e : l = (u + 2) / 2
            · subst e
              rw [vpu_same, tb_or, Bool.or_eq_true, htop q3] at q4
              rcases q4 with q4 | q4
              · obtain ⟨z1, z2, L, z3, z4, z5⟩ := (hy _ c).mp ⟨q1, q2, q3, q4⟩
                exact ⟨z1, z2, L, z3, by omega, z5⟩
              · exact ⟨q2, ⟨q3, q4.1⟩, u + 2, by omega, by omega, q4.2, rfl⟩
            · rw [vpu_ne e] at q4
              obtain ⟨z1, z2, L, z3, z4, z5⟩ := (hy _ c).mp ⟨q1, q2, q3, q4⟩
              exact ⟨z1, z2, L, z3, by omega, z5⟩
          · rintro ⟨z1, z2, L, z3, z4, z5, z6⟩
            have hl0 : 0 < l := by omega
            by_cases e : L = u + 2
            · subst e
              subst z6
              refine ⟨hl0, z1, z2.1, ?_⟩
              rw [vpu_same, tb_or, Bool.or_eq_true, htop z2.1]
              exact Or.inr ⟨z2.2, z5⟩
            · have h1 := (hy l c).mpr ⟨z1, z2, L, z3, by omega, z5, z6⟩
              by_cases e2 : l = (u + 2) / 2
              · subst e2
                refine ⟨hl0, z1, z2.1, ?_⟩
                rw [vpu_same, tb_or, Bool.or_eq_true]
                exact Or.inl h1.2.2.2
              · refine ⟨hl0, z1, z2.1, ?_⟩
                rw [vpu_ne e2]
                exact h1.2.2.2
        · simp only [f_Sd_giveBack_L22]
          rw [show (1 : Int32) = nI 1 from rfl, if_neg (nI_ge (by omega) (by omega)), hdiv, gd_nI (by omega) (by omega), gd_nI (by omega) (by omega), gd_nI (by omega) (by omega), nI_clamp (by omega), nI_clamp (by omega), ltE, gd_nI (by omega) (by omega), ltE, ltE]
          rw [show u + 2 = (u + 1) + 1 from rfl, show -(nI 1) = (-1 : Int32) from rfl, pk_m1])
      (x0 := (of, 20, fun j => if j < 21 then 0 else echo j)) ⟨rfl, fun c hc => by
        dsimp only
        refine ⟨fun q => ⟨q, fun l hl hX => ?_⟩, fun q => q.1⟩
        have := hX.2.1
        omega, fun l c => by
        dsimp only
        constructor
        · rintro ⟨q1, q2, q3, q4⟩
          simp only [if_pos q2] at q4
          rw [tb_0] at q4
          cases q4
        · rintro ⟨z1, z2, L, z3, z4, z5, z6⟩
          have := z5.1.2.1
          omega⟩
    simp only at e hx hy
    subst e
    rw [hrun]
    simp only [f_Sd_giveBack_L22]
    rw [if_pos (by decide)]
    obtain ⟨x4, ha1, ha2⟩ := allow_eq hS (o := o) (sv := fun j => v (125 + 4 * v (148 + 5 * j)) = o) (p2 := -1) hm ho hhr hb hg may (fun j hj => Or.inl ⟨rfl, Iff.rfl⟩)
    rw [bd_some ha1]
    obtain ⟨x6, hr1, hr2⟩ := spread_eq hG hgr x4 y (k1 := 1) (k2 := 0) (fun l c h => by
      obtain ⟨_, z2, _⟩ := (hy l c).mp h
      exact hof c z2.1 z2.2) (by decide) (by decide)
    rw [show (1 : Int32) = nI 1 from rfl, show (0 : Int32) = nI 0 from rfl, bd_some hr1]
    obtain ⟨⟨a, z⟩, rec2, ⟨e2, hz⟩, hrun2⟩ := lp_inv (f := f_Sd_giveBack_L91 x4 x6) (fun i (y : Int32 × (Nat → Int64)) => y.1 = nI (i + 1) ∧ ∀ l c, XO y.2 l c ↔ XO echoes l c ∨ (l < i + 1 ∧ XO x6 l c)) 20 (by decide) (by
        rintro i ⟨a, z⟩ hi ⟨e, hz⟩
        simp only at e hz
        subst e
        refine ⟨(nI (i + 2), vp_updL z (i + 1) (z (i + 1) ||| x6 (i + 1))), ⟨rfl, fun l c => ?_⟩, fun rec => ?_⟩
        · dsimp only
          by_cases e : l = i + 1
          · subst e
            constructor
            · rintro ⟨q1, q2, q3, q4⟩
              rw [vpu_same, tb_or, Bool.or_eq_true] at q4
              rcases q4 with q4 | q4
              · exact ((hz _ c).mp ⟨q1, q2, q3, q4⟩).elim Or.inl (fun q => Or.inr ⟨by omega, q.2⟩)
              · exact Or.inr ⟨by omega, q1, q2, q3, q4⟩
            · rintro (q | ⟨_, q⟩)
              · have := (hz _ c).mpr (Or.inl q)
                exact ⟨q.1, q.2.1, q.2.2.1, by rw [vpu_same, tb_or, Bool.or_eq_true]; exact Or.inl this.2.2.2⟩
              · exact ⟨q.1, q.2.1, q.2.2.1, by rw [vpu_same, tb_or, Bool.or_eq_true]; exact Or.inr q.2.2.2⟩
          · have h1 : XO (vp_updL z (i + 1) (z (i + 1) ||| x6 (i + 1))) l c ↔ XO z l c := by
              unfold XO
              rw [vpu_ne e]
            rw [h1, hz l c]
            constructor
            · rintro (q | ⟨q1, q⟩)
              · exact Or.inl q
              · exact Or.inr ⟨by omega, q⟩
            · rintro (q | ⟨q1, q⟩)
              · exact Or.inl q
              · exact Or.inr ⟨by omega, q⟩
        · simp only [f_Sd_giveBack_L91]
          rw [show (20 : Int32) = nI 20 from rfl, if_neg (nI_nlt (by omega) (by omega)), gd_nI (by omega) (by omega), gd_nI (by omega) (by omega), gd_nI (by omega) (by omega), nI_clamp (by omega), ltE, ltE, nI_1])
      (x0 := (nI 1, echoes)) ⟨rfl, fun l c => by
        dsimp only
        refine ⟨Or.inl, ?_⟩
        rintro (q | ⟨q1, q⟩)
        · exact q
        · have := q.1
          omega⟩
    simp only at e2 hz
    subst e2
    refine ⟨x4, x6, z, ?_, fun l c => ?_⟩
    · rw [hrun2]
      simp only [f_Sd_giveBack_L91]
      rw [if_pos (by decide)]
    · rw [hz l c]
      refine or_congr Iff.rfl ?_
      have hc0 : (fun c => if (fun c => v (2 + c)) c = 1 then 0 else 1) = cst v 0 := by
        funext c
        unfold cst kCost
        by_cases q : v (2 + c) = 1 <;> simp [q]
      have h2 : XO x6 l c ↔ prc (v 0) (v 0 * v 1) (cst v 0) (mayE v hr g b m o) 20 (halfs (XO ways) (fun c => c < 64 ∧ tb of c = true)) l c := by
        rw [hr2 l c, hc0, prc_may 20 (by decide) (may' := mayE v hr g b m o) (fun l c l1 l2 hc => by rw [ha2 l l1 (by omega) c (by omega)]; rfl) l c]
        refine prc_congr 20 (fun l c => ?_) l c
        rw [hy l c]
        unfold halfs
        constructor
        · rintro ⟨z1, z2, L, z3, z4, z5, z6⟩
          exact ⟨z2, L, z3, z5, z6⟩
        · rintro ⟨z2, L, z3, z5, z6⟩
          exact ⟨by have := z5.1.2.1; omega, z2, L, z3, by omega, z5, z6⟩
      rw [h2]
      constructor
      · exact fun q => q.2
      · intro q
        exact ⟨(h2.mpr q).2.1, q⟩

/-! SETS as bits of a long; how many bits are set. -/
section ZBI
def tb (x : Int64) (i : Nat) : Bool := x.toBitVec.getLsbD i
theorem tb_ext {x y : Int64} (h : ∀ i, i < 64 → tb x i = tb y i) : x = y := Int64.toBitVec_inj.mp (BitVec.eq_of_getLsbD_eq (fun i hi => h i hi))
theorem tb_or (x y : Int64) (i : Nat) : tb (x ||| y) i = (tb x i || tb y i) := by unfold tb; rw [Int64.toBitVec_or, BitVec.getLsbD_or]
theorem tb_and (x y : Int64) (i : Nat) : tb (x &&& y) i = (tb x i && tb y i) := by unfold tb; rw [Int64.toBitVec_and, BitVec.getLsbD_and]
theorem tb_xor (x y : Int64) (i : Nat) : tb (x ^^^ y) i = (tb x i ^^ tb y i) := by unfold tb; rw [Int64.toBitVec_xor, BitVec.getLsbD_xor]
theorem tb_0 (i : Nat) : tb 0 i = false := BitVec.getLsbD_zero
theorem tb_m1 : ∀ i, i < 64 → tb (-1) i = true := by decide +kernel
theorem tb_1 : ∀ i, i < 64 → tb 1 i = decide (i = 0) := by decide +kernel
theorem tw_l : ∀ n, n < 64 → (zlshl 1 (ii n)).toBitVec = BitVec.twoPow 64 n := by decide +kernel
theorem tw_s : ∀ n, n < 64 → (((ii n).toInt64 &&& 63).toBitVec.smod 64).toNat = n := by decide +kernel
theorem tw_u : ∀ n, n < 64 → (((ii n).toInt64.toUInt64 &&& Int64.toUInt64 63).toBitVec % 64).toNat = n := by decide +kernel
theorem tb_shl {n i : Nat} (hn : n < 64) (hi : i < 64) : tb (zlshl 1 (ii n)) i = decide (n = i) := by
  unfold tb
  rw [tw_l n hn, BitVec.getLsbD_twoPow]
  by_cases h : n = i
  · simp [h, hi]
  · simp [h]
theorem tb_sshr {n : Nat} (hn : n < 64) (x : Int64) {i : Nat} (hi : n + i < 64) : tb (zlshr x (ii n)) i = tb x (n + i) := by
  unfold tb zlshr
  rw [Int64.toBitVec_shiftRight]
  show (x.toBitVec.sshiftRight (((ii n).toInt64 &&& 63).toBitVec.smod 64).toNat).getLsbD i = _
  rw [tw_s n hn, BitVec.getLsbD_sshiftRight]
  simp [hi, show ¬ 64 ≤ i by omega]
theorem tb_ushr {n : Nat} (hn : n < 64) (x : Int64) (i : Nat) : tb (zlushr x (ii n)) i = tb x (n + i) := by
  unfold zlushr
  show (x.toUInt64 >>> ((ii n).toInt64.toUInt64 &&& Int64.toUInt64 63)).toBitVec.getLsbD i = x.toUInt64.toBitVec.getLsbD (n + i)
  rw [UInt64.toBitVec_shiftRight]
  show (x.toUInt64.toBitVec >>> (((ii n).toInt64.toUInt64 &&& Int64.toUInt64 63).toBitVec % 64).toNat).getLsbD i = _
  rw [tw_u n hn, BitVec.getLsbD_ushiftRight]
theorem tb_and1 (y : Int64) : y &&& 1 = 0 ↔ tb y 0 = false := by
  constructor
  · intro h
    have := congrArg (fun z => tb z 0) h
    simp only [tb_and, tb_1 0 (by omega), tb_0] at this
    simpa using this
  · intro h
    refine tb_ext (fun i hi => ?_)
    rw [tb_and, tb_1 i hi, tb_0]
    by_cases e : i = 0
    · subst e
      rw [h]
      rfl
    · simp [e]
theorem tb_u {n : Nat} (hn : n < 64) (x : Int64) : lg_cmp ((zlushr x (ii n)) &&& 1) 0 = 0 ↔ tb x n = false := by
  rw [lg_cmp_eq, tb_and1, tb_ushr hn]
  rfl
theorem tb_s {n : Nat} (hn : n < 64) (x : Int64) : lg_cmp ((zlshr x (ii n)) &&& 1) 0 = 0 ↔ tb x n = false := by
  rw [lg_cmp_eq, tb_and1, tb_sshr hn x (by omega)]
  rfl
/-- how many -/
def cb (p : Nat → Bool) : Nat → Nat
  | 0 => 0
  | m + 1 => cb p m + (if p m = true then 1 else 0)
theorem cb_cong {p q : Nat → Bool} {m : Nat} (h : ∀ i, i < m → p i = q i) : cb p m = cb q m := by
  induction m with
  | zero => rfl
  | succ m ih =>
    unfold cb
    rw [ih (fun i hi => h i (by omega)), h m (by omega)]
theorem cb_add (p : Nat → Bool) (m k : Nat) : cb p (m + k) = cb p m + cb (fun i => p (m + i)) k := by
  induction k with
  | zero => rfl
  | succ k ih =>
    show cb p (m + k) + _ = cb p m + (cb _ k + _)
    rw [ih, Nat.add_assoc]
    rfl
theorem cb_zero {p : Nat → Bool} {m : Nat} (h : ∀ i, i < m → p i = false) : cb p m = 0 := by
  induction m with
  | zero => rfl
  | succ m ih =>
    unfold cb
    rw [ih (fun i hi => h i (by omega)), h m (by omega)]
    rfl
/-! bytes -/
def mkM (m : Nat) : Nat → Nat
  | 0 => 0
  | j + 1 => 256 * mkM m j + m
def bm (g : Nat → Nat) : Nat → Nat → Nat
  | 0, _ => 0
  | j + 1, n => 256 * bm g j (n / 256) + g (n % 256)
theorem and256 {p c M m : Nat} (hc : c < 256) (hm : m < 256) : (256 * p + c) &&& (256 * M + m) = 256 * (p &&& M) + (c &&& m) := by
  have hcm : c &&& m < 2 ^ 8 := Nat.and_lt_two_pow c (by omega)
  apply Nat.eq_of_testBit_eq
  intro i
  have e1 := Nat.testBit_two_pow_mul_add p (show c < 2 ^ 8 by omega) i
  have e2 := Nat.testBit_two_pow_mul_add M (show m < 2 ^ 8 by omega) i
  have e3 := Nat.testBit_two_pow_mul_add (p &&& M) hcm i
  have h8 : (2 : Nat) ^ 8 = 256 := rfl
  rw [h8] at e1 e2 e3
  rw [Nat.testBit_and, e1, e2, e3]
  by_cases h : i < 8
  · rw [if_pos h, if_pos h, if_pos h, Nat.testBit_and]
  · rw [if_neg h, if_neg h, if_neg h, Nat.testBit_and]
def g1 (b : Nat) : Nat := b - ((b / 2) &&& 85)
def g2 (b : Nat) : Nat := (b &&& 51) + ((b / 4) &&& 51)
def g3 (b : Nat) : Nat := b % 16 + b / 16
theorem g1_d : ∀ b, b < 256 → ∀ e, e < 2 → (128 * e + b / 2) &&& 85 = (b / 2) &&& 85 ∧ (b / 2) &&& 85 ≤ b := by decide +kernel
theorem g2_d : ∀ b, b < 256 → ∀ e, e < 4 → (64 * e + b / 4) &&& 51 = (b / 4) &&& 51 := by decide +kernel
theorem g3_d : ∀ c, c < 256 → c &&& 15 = c % 16 := by decide +kernel
theorem st1 (j n : Nat) (hn : n < 256 ^ j) : n - ((n / 2) &&& mkM 85 j) = bm g1 j n ∧ ((n / 2) &&& mkM 85 j) ≤ n := by
  induction j generalizing n with
  | zero =>
    have : n = 0 := by omega
    subst this
    exact ⟨rfl, Nat.le_refl _⟩
  | succ j ih =>
    have hq : n / 256 < 256 ^ j := by
      rw [Nat.pow_succ] at hn
      omega
    obtain ⟨i1, i2⟩ := ih (n / 256) hq
    obtain ⟨d1, d2⟩ := g1_d (n % 256) (by omega) (n / 256 % 2) (by omega)
    have e : n / 2 = 256 * (n / 256 / 2) + (128 * (n / 256 % 2) + n % 256 / 2) := by omega
    have ea : n / 2 &&& mkM 85 (j + 1) = 256 * (n / 256 / 2 &&& mkM 85 j) + ((n % 256 / 2) &&& 85) := by
      rw [e, ← d1]
      exact and256 (by omega) (by omega)
    have hb : bm g1 (j + 1) n = 256 * bm g1 j (n / 256) + g1 (n % 256) := rfl
    have hg : g1 (n % 256) = n % 256 - ((n % 256 / 2) &&& 85) := rfl
    rw [ea, hb, hg, ← i1]
    constructor
    · omega
    · omega
theorem st2 (j n : Nat) (hn : n < 256 ^ j) : (n &&& mkM 51 j) + ((n / 4) &&& mkM 51 j) = bm g2 j n := by
  induction j generalizing n with
  | zero =>
    have : n = 0 := by omega
    subst this
    rfl
  | succ j ih =>
    have hq : n / 256 < 256 ^ j := by
      rw [Nat.pow_succ] at hn
      omega
    have i1 := ih (n / 256) hq
    have d1 := g2_d (n % 256) (by omega) (n / 256 % 4) (by omega)
    have e : n / 4 = 256 * (n / 256 / 4) + (64 * (n / 256 % 4) + n % 256 / 4) := by omega
    have ea : n / 4 &&& mkM 51 (j + 1) = 256 * (n / 256 / 4 &&& mkM 51 j) + ((n % 256 / 4) &&& 51) := by
      rw [e, ← d1]
      exact and256 (by omega) (by omega)
    have eb : n &&& mkM 51 (j + 1) = 256 * (n / 256 &&& mkM 51 j) + ((n % 256) &&& 51) := by
      have : n = 256 * (n / 256) + n % 256 := by omega
      rw [this]
      have h9 := and256 (p := n / 256) (c := n % 256) (M := mkM 51 j) (m := 51) (by omega) (by omega)
      rw [show (256 * (n / 256) + n % 256) / 256 = n / 256 by omega, show (256 * (n / 256) + n % 256) % 256 = n % 256 by omega]
      exact h9
    have hb : bm g2 (j + 1) n = 256 * bm g2 j (n / 256) + g2 (n % 256) := rfl
    have hg : g2 (n % 256) = (n % 256 &&& 51) + ((n % 256 / 4) &&& 51) := rfl
    rw [ea, eb, hb, hg, ← i1]
    omega
def nib (j n : Nat) : Prop := ∀ i, i < j → n / 256 ^ i % 256 % 16 ≤ 4 ∧ n / 256 ^ i % 256 / 16 ≤ 4
theorem st3 (j n : Nat) (hn : n < 256 ^ j) (hb : nib j n) : (n + n / 16) &&& mkM 15 j = bm g3 j n := by
  induction j generalizing n with
  | zero =>
    have : n = 0 := by omega
    subst this
    rfl
  | succ j ih =>
    have hq : n / 256 < 256 ^ j := by
      rw [Nat.pow_succ] at hn
      omega
    have hb' : nib j (n / 256) := by
      intro i hi
      have := hb (i + 1) (by omega)
      rw [Nat.pow_succ, Nat.mul_comm, ← Nat.div_div_eq_div_mul] at this
      exact this
    have i1 := ih (n / 256) hq hb'
    have b0 := hb 0 (by omega)
    rw [Nat.pow_zero, Nat.div_one] at b0
    have b1 : n / 256 % 16 ≤ 4 := by
      by_cases hj : j = 0
      · subst hj
        have : n / 256 = 0 := by omega
        rw [this]
        omega
      · have := (hb' 0 (by omega)).1
        rw [Nat.pow_zero, Nat.div_one] at this
        omega
    have e : n + n / 16 = 256 * (n / 256 + n / 256 / 16) + (n % 256 + 16 * (n / 256 % 16) + n % 256 / 16) := by omega
    have hc : n % 256 + 16 * (n / 256 % 16) + n % 256 / 16 < 256 := by omega
    have ea : (n + n / 16) &&& mkM 15 (j + 1) = 256 * ((n / 256 + n / 256 / 16) &&& mkM 15 j) + ((n % 256 + 16 * (n / 256 % 16) + n % 256 / 16) &&& 15) := by
      rw [e]
      exact and256 hc (by omega)
    have hb2 : bm g3 (j + 1) n = 256 * bm g3 j (n / 256) + g3 (n % 256) := rfl
    have hg : g3 (n % 256) = n % 256 % 16 + n % 256 / 16 := rfl
    rw [ea, g3_d _ hc, i1, hb2, hg]
    omega
theorem bm_lt {g : Nat → Nat} (hg : ∀ b, b < 256 → g b < 256) (j n : Nat) : bm g j n < 256 ^ j := by
  induction j generalizing n with
  | zero => exact Nat.one_pos
  | succ j ih =>
    have h1 := ih (n / 256)
    have h2 := hg (n % 256) (by omega)
    show 256 * bm g j (n / 256) + g (n % 256) < 256 ^ (j + 1)
    rw [Nat.pow_succ]
    omega
theorem bm_bm {g h : Nat → Nat} (hg : ∀ b, b < 256 → g b < 256) (j n : Nat) : bm h j (bm g j n) = bm (fun b => h (g b)) j n := by
  induction j generalizing n with
  | zero => rfl
  | succ j ih =>
    have h2 := hg (n % 256) (by omega)
    show 256 * bm h j ((256 * bm g j (n / 256) + g (n % 256)) / 256) + h ((256 * bm g j (n / 256) + g (n % 256)) % 256) = 256 * bm (fun b => h (g b)) j (n / 256) + h (g (n % 256))
    rw [show (256 * bm g j (n / 256) + g (n % 256)) / 256 = bm g j (n / 256) by omega, show (256 * bm g j (n / 256) + g (n % 256)) % 256 = g (n % 256) by omega, ih]
theorem bm_nib {g : Nat → Nat} (hg : ∀ b, b < 256 → g b < 256 ∧ g b % 16 ≤ 4 ∧ g b / 16 ≤ 4) (j n : Nat) : nib j (bm g j n) := by
  induction j generalizing n with
  | zero => exact fun i hi => absurd hi (Nat.not_lt_zero i)
  | succ j ih =>
    intro i hi
    obtain ⟨h1, h2, h3⟩ := hg (n % 256) (by omega)
    have e : bm g (j + 1) n = 256 * bm g j (n / 256) + g (n % 256) := rfl
    cases i with
    | zero =>
      rw [e, Nat.pow_zero, Nat.div_one, show (256 * bm g j (n / 256) + g (n % 256)) % 256 = g (n % 256) by omega]
      exact ⟨h2, h3⟩
    | succ i =>
      have := ih (n / 256) i (by omega)
      rw [e, Nat.pow_succ, Nat.mul_comm (256 ^ i) 256, ← Nat.div_div_eq_div_mul, show (256 * bm g j (n / 256) + g (n % 256)) / 256 = bm g j (n / 256) by omega]
      exact this
theorem g12_d : ∀ b, b < 256 → g1 b < 256 ∧ g2 (g1 b) < 256 ∧ g2 (g1 b) % 16 ≤ 4 ∧ g2 (g1 b) / 16 ≤ 4 ∧ g3 (g2 (g1 b)) = cb (fun i => b.testBit i) 8 ∧ g3 (g2 (g1 b)) ≤ 8 := by decide +kernel
def pc8 (b : Nat) : Nat := g3 (g2 (g1 b))
theorem cb_bm (j n : Nat) : (∀ i, i < j → pc8 (n / 256 ^ i % 256) ≤ 8) ∧ cb (fun i => n.testBit i) (8 * (j + 1)) = pc8 (n % 256) + cb (fun i => (n / 256).testBit i) (8 * j) := by
  constructor
  · intro i hi
    exact (g12_d _ (by omega)).2.2.2.2.2
  · rw [show 8 * (j + 1) = 8 + 8 * j by omega, cb_add]
    have h1 : pc8 (n % 256) = cb (fun i => n.testBit i) 8 := by
      unfold pc8
      rw [(g12_d (n % 256) (by omega)).2.2.2.2.1]
      refine cb_cong (fun i hi => ?_)
      have := Nat.testBit_mod_two_pow n 8 i
      rw [show (2 : Nat) ^ 8 = 256 from rfl] at this
      rw [this]
      simp [hi]
    rw [h1]
    congr 1
    refine cb_cong (fun i hi => ?_)
    have h9 : (n / 2 ^ 8).testBit i = n.testBit (i + 8) := Nat.testBit_div_two_pow n i
    rw [show (2 : Nat) ^ 8 = 256 from rfl] at h9
    rw [h9, Nat.add_comm]
/-- the bits of eight bytes -/
theorem pop8 (n : Nat) : ∃ p0 p1 p2 p3 p4 p5 p6 p7, (p0 ≤ 8 ∧ p1 ≤ 8 ∧ p2 ≤ 8 ∧ p3 ≤ 8 ∧ p4 ≤ 8 ∧ p5 ≤ 8 ∧ p6 ≤ 8 ∧ p7 ≤ 8) ∧ bm pc8 8 n = 256 * (256 * (256 * (256 * (256 * (256 * (256 * p7 + p6) + p5) + p4) + p3) + p2) + p1) + p0 ∧ cb (fun i => n.testBit i) 64 = p0 + p1 + p2 + p3 + p4 + p5 + p6 + p7 := by
  have hb : ∀ m, pc8 (m % 256) ≤ 8 := fun m => (g12_d _ (by omega)).2.2.2.2.2
  refine ⟨pc8 (n % 256), pc8 (n / 256 % 256), pc8 (n / 256 / 256 % 256), pc8 (n / 256 / 256 / 256 % 256), pc8 (n / 256 / 256 / 256 / 256 % 256), pc8 (n / 256 / 256 / 256 / 256 / 256 % 256), pc8 (n / 256 / 256 / 256 / 256 / 256 / 256 % 256), pc8 (n / 256 / 256 / 256 / 256 / 256 / 256 / 256 % 256), ⟨hb _, hb _, hb _, hb _, hb _, hb _, hb _, hb _⟩, ?_, ?_⟩
  · show 256 * (256 * (256 * (256 * (256 * (256 * (256 * (256 * 0 + _) + _) + _) + _) + _) + _) + _) + _ = _
    rw [Nat.mul_zero, Nat.zero_add]
  · have e := fun j m => (cb_bm j m).2
    rw [show 64 = 8 * (7 + 1) from rfl, e, show 8 * 7 = 8 * (6 + 1) from rfl, e, show 8 * 6 = 8 * (5 + 1) from rfl, e, show 8 * 5 = 8 * (4 + 1) from rfl, e, show 8 * 4 = 8 * (3 + 1) from rfl, e, show 8 * 3 = 8 * (2 + 1) from rfl, e, show 8 * 2 = 8 * (1 + 1) from rfl, e, show 8 * 1 = 8 * (0 + 1) from rfl, e]
    show _ + (_ + (_ + (_ + (_ + (_ + (_ + (_ + 0))))))) = _
    omega
end ZBI

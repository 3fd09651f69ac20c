/-! Long.bitCount counts bits. -/
section ZPO
def uN (x : Int64) : Nat := x.toUInt64.toNat
theorem uN_lt (x : Int64) : uN x < 18446744073709551616 := x.toUInt64.toNat_lt
theorem uN_add (x y : Int64) : uN (x + y) = (uN x + uN y) % 18446744073709551616 := by
  show (x.toUInt64 + y.toUInt64).toNat = _
  rw [UInt64.toNat_add]
  rfl
theorem uN_sub {x y : Int64} (h : uN y ≤ uN x) : uN (x - y) = uN x - uN y := by
  show (x.toUInt64 - y.toUInt64).toNat = _
  exact UInt64.toNat_sub_of_le _ _ (UInt64.le_iff_toNat_le.mpr h)
theorem uN_and (x y : Int64) : uN (x &&& y) = uN x &&& uN y := by
  show (x.toUInt64 &&& y.toUInt64).toNat = _
  exact UInt64.toNat_and _ _
theorem uN_shr {n : Nat} (hn : n < 64) (x : Int64) : uN (zlushr x (ii n)) = uN x / 2 ^ n := by
  unfold zlushr
  show (x.toUInt64 >>> ((ii n).toInt64.toUInt64 &&& Int64.toUInt64 63)).toNat = _
  rw [UInt64.toNat_shiftRight]
  have e : ((ii n).toInt64.toUInt64 &&& Int64.toUInt64 63).toNat % 64 = n := tw_u n hn
  rw [e, Nat.shiftRight_eq_div_pow]
  rfl
theorem tb_uN (x : Int64) (i : Nat) : tb x i = (uN x).testBit i := rfl
theorem pa_d {a r : Nat} (h : r < 256) : (256 * a + r) / 256 = a := by omega
theorem pa_s (a b p q : Nat) : (256 * a + p) + (256 * b + q) = 256 * (a + b) + (p + q) := by omega
theorem pa_b {a p M : Nat} (ha : a ≤ M) (hp : p ≤ 8) : 256 * a + p ≤ 256 * M + 8 := by omega
theorem pa_2 {x N k : Nat} (h : x ≤ N) : x + x / k ≤ 2 * N := by
  have := Nat.div_le_self x k
  omega
theorem pa_m {a c p q : Nat} (h : c = 256 * a + p) (b x : Nat) (hx : x = 256 * b + q) (hq : p + q < 128) : (x + c) % 128 = p + q := by omega
theorem pa_l {p0 p1 p2 p3 p4 p5 p6 p7 : Nat} (q0 : p0 ≤ 8) (q1 : p1 ≤ 8) (q2 : p2 ≤ 8) (q3 : p3 ≤ 8) (q4 : p4 ≤ 8) (q5 : p5 ≤ 8) (q6 : p6 ≤ 8) (q7 : p7 ≤ 8) : (p0 + p1 < 256 ∧ p1 + p2 < 256 ∧ p2 + p3 < 256 ∧ p3 + p4 < 256 ∧ p4 + p5 < 256 ∧ p5 + p6 < 256 ∧ p6 + p7 < 256) ∧ (p0 + p1 + (p2 + p3) < 256 ∧ p1 + p2 + (p3 + p4) < 256 ∧ p2 + p3 + (p4 + p5) < 256 ∧ p3 + p4 + (p5 + p6) < 256) ∧ p0 + p1 + (p2 + p3) + (p4 + p5 + (p6 + p7)) < 128 := by omega
theorem pop_ar {z3 p0 p1 p2 p3 p4 p5 p6 p7 : Nat} (q0 : p0 ≤ 8) (q1 : p1 ≤ 8) (q2 : p2 ≤ 8) (q3 : p3 ≤ 8) (q4 : p4 ≤ 8) (q5 : p5 ≤ 8) (q6 : p6 ≤ 8) (q7 : p7 ≤ 8) (e3 : z3 = 256 * (256 * (256 * (256 * (256 * (256 * (256 * p7 + p6) + p5) + p4) + p3) + p2) + p1) + p0) :
    z3 ≤ 578721382704613384 ∧ (z3 + z3 / 256 + (z3 + z3 / 256) / 65536 + (z3 + z3 / 256 + (z3 + z3 / 256) / 65536) / 4294967296) % 128 = p0 + p1 + (p2 + p3) + (p4 + p5 + (p6 + p7)) := by
  obtain ⟨⟨r01, r12, r23, r34, r45, r56, r67⟩, ⟨t0, t1, t2, t3⟩, u⟩ := pa_l q0 q1 q2 q3 q4 q5 q6 q7
  have r7 : p7 < 256 := Nat.lt_of_le_of_lt q7 (by decide)
  have r1 : p0 < 256 := Nat.lt_of_le_of_lt q0 (by decide)
  obtain ⟨a6, h6⟩ : ∃ a, a = 256 * p7 + p6 := ⟨_, rfl⟩
  obtain ⟨a5, h5⟩ : ∃ a, a = 256 * a6 + p5 := ⟨_, rfl⟩
  obtain ⟨a4, h4⟩ : ∃ a, a = 256 * a5 + p4 := ⟨_, rfl⟩
  obtain ⟨a3, h3⟩ : ∃ a, a = 256 * a4 + p3 := ⟨_, rfl⟩
  obtain ⟨a2, h2⟩ : ∃ a, a = 256 * a3 + p2 := ⟨_, rfl⟩
  obtain ⟨a1, h1⟩ : ∃ a, a = 256 * a2 + p1 := ⟨_, rfl⟩
  rw [← h6, ← h5, ← h4, ← h3, ← h2, ← h1] at e3
  constructor
  · have b6 : a6 ≤ 256 * 8 + 8 := by rw [h6]; exact pa_b q7 q6
    have b5 : a5 ≤ 256 * (256 * 8 + 8) + 8 := by rw [h5]; exact pa_b b6 q5
    have b4 : a4 ≤ 256 * (256 * (256 * 8 + 8) + 8) + 8 := by rw [h4]; exact pa_b b5 q4
    have b3 : a3 ≤ 256 * (256 * (256 * (256 * 8 + 8) + 8) + 8) + 8 := by rw [h3]; exact pa_b b4 q3
    have b2 : a2 ≤ 256 * (256 * (256 * (256 * (256 * 8 + 8) + 8) + 8) + 8) + 8 := by rw [h2]; exact pa_b b3 q2
    have b1 : a1 ≤ 256 * (256 * (256 * (256 * (256 * (256 * 8 + 8) + 8) + 8) + 8) + 8) + 8 := by rw [h1]; exact pa_b b2 q1
    rw [e3]
    exact pa_b b1 q0
  · have d3 : z3 / 256 = a1 := by rw [e3]; exact pa_d r1
    have z4 : z3 + a1 = 256 * (a1 + a2) + (p0 + p1) := by
      have := pa_s a1 a2 p0 p1
      rw [← e3, ← h1] at this
      exact this
    have b1 : a1 + a2 = 256 * (a2 + a3) + (p1 + p2) := by
      have := pa_s a2 a3 p1 p2
      rw [← h1, ← h2] at this
      exact this
    have b2 : a2 + a3 = 256 * (a3 + a4) + (p2 + p3) := by
      have := pa_s a3 a4 p2 p3
      rw [← h2, ← h3] at this
      exact this
    have b3 : a3 + a4 = 256 * (a4 + a5) + (p3 + p4) := by
      have := pa_s a4 a5 p3 p4
      rw [← h3, ← h4] at this
      exact this
    have b4 : a4 + a5 = 256 * (a5 + a6) + (p4 + p5) := by
      have := pa_s a5 a6 p4 p5
      rw [← h4, ← h5] at this
      exact this
    have b5 : a5 + a6 = 256 * (a6 + p7) + (p5 + p6) := by
      have := pa_s a6 p7 p5 p6
      rw [← h5, ← h6] at this
      exact this
    have b6 : a6 + p7 = 256 * p7 + (p6 + p7) := by rw [h6, Nat.add_assoc]
    have d4 : (z3 + a1) / 65536 = a2 + a3 := by
      rw [show 65536 = 256 * 256 from rfl, ← Nat.div_div_eq_div_mul, z4, pa_d r01, b1, pa_d r12]
    have z5 : z3 + a1 + (a2 + a3) = 256 * (a1 + a2 + (a3 + a4)) + (p0 + p1 + (p2 + p3)) := by
      have := pa_s (a1 + a2) (a3 + a4) (p0 + p1) (p2 + p3)
      rw [← z4, ← b2] at this
      exact this
    have c1 : a1 + a2 + (a3 + a4) = 256 * (a2 + a3 + (a4 + a5)) + (p1 + p2 + (p3 + p4)) := by
      have := pa_s (a2 + a3) (a4 + a5) (p1 + p2) (p3 + p4)
      rw [← b1, ← b3] at this
      exact this
    have c2 : a2 + a3 + (a4 + a5) = 256 * (a3 + a4 + (a5 + a6)) + (p2 + p3 + (p4 + p5)) := by
      have := pa_s (a3 + a4) (a5 + a6) (p2 + p3) (p4 + p5)
      rw [← b2, ← b4] at this
      exact this
    have c3 : a3 + a4 + (a5 + a6) = 256 * (a4 + a5 + (a6 + p7)) + (p3 + p4 + (p5 + p6)) := by
      have := pa_s (a4 + a5) (a6 + p7) (p3 + p4) (p5 + p6)
      rw [← b3, ← b5] at this
      exact this
    have c4 : a4 + a5 + (a6 + p7) = 256 * (a5 + a6 + p7) + (p4 + p5 + (p6 + p7)) := by
      have := pa_s (a5 + a6) p7 (p4 + p5) (p6 + p7)
      rw [← b4, ← b6] at this
      exact this
    have d5 : (z3 + a1 + (a2 + a3)) / 4294967296 = a4 + a5 + (a6 + p7) := by
      rw [show 4294967296 = 256 * (256 * (256 * 256)) from rfl, ← Nat.div_div_eq_div_mul, ← Nat.div_div_eq_div_mul, ← Nat.div_div_eq_div_mul, z5, pa_d t0, c1, pa_d t1, c2, pa_d t2, c3, pa_d t3]
    rw [d3, d4, d5]
    exact pa_m c4 _ _ z5 (by rw [Nat.add_comm]; exact u) |>.trans (Nat.add_comm _ _)
theorem pa_h9 {x : Nat} (h : x < 18446744073709551616) (h7 : x / 256 ^ 7 % 256 / 16 ≤ 4) : x + x / 2 ^ 4 < 18446744073709551616 := by
  have e : (256 : Nat) ^ 7 = 72057594037927936 := by decide +kernel
  rw [e] at h7
  omega
theorem bitCount_cb (x : Int64) : f_J13_bitCount_95d88 x = ii (cb (tb x) 64) := by
  have hx := uN_lt x
  have m5 : uN 6148914691236517205 = mkM 85 8 := by decide +kernel
  have m3 : uN 3689348814741910323 = mkM 51 8 := by decide +kernel
  have m0 : uN 1085102592571150095 = mkM 15 8 := by decide +kernel
  have hc : (256 : Nat) ^ 8 = 18446744073709551616 := by decide +kernel
  generalize hz1 : x - ((zlushr x (1 : Int32)) &&& (6148914691236517205 : Int64)) = z1
  generalize hz2 : (z1 &&& (3689348814741910323 : Int64)) + ((zlushr z1 (2 : Int32)) &&& (3689348814741910323 : Int64)) = z2
  generalize hz3 : (z2 + (zlushr z2 (4 : Int32))) &&& (1085102592571150095 : Int64) = z3
  generalize hz4 : z3 + (zlushr z3 (8 : Int32)) = z4
  generalize hz5 : z4 + (zlushr z4 (16 : Int32)) = z5
  generalize hz6 : z5 + (zlushr z5 (32 : Int32)) = z6
  have ef : f_J13_bitCount_95d88 x = z6.toInt32 &&& 127 := by
    unfold f_J13_bitCount_95d88
    rw [zlet_eq, hz1, zlet_eq, hz2, zlet_eq, hz3, zlet_eq, hz4, zlet_eq, hz5, zlet_eq, hz6]
  have s1 := st1 8 (uN x) (by rw [hc]; exact hx)
  have e1 : uN z1 = bm g1 8 (uN x) := by
    have ea : uN (zlushr x (1 : Int32) &&& 6148914691236517205) = (uN x / 2) &&& mkM 85 8 := by
      rw [uN_and, m5, show (1 : Int32) = ii 1 from rfl, uN_shr (by omega)]
    rw [← hz1, uN_sub (by rw [ea]; exact s1.2), ea]
    exact s1.1
  have l1 : uN z1 < 256 ^ 8 := by rw [hc]; exact uN_lt z1
  have s2 := st2 8 (uN z1) l1
  have b1 : ∀ b, b < 256 → g1 b < 256 := fun b hb => (g12_d b hb).1
  have e2' : bm g2 8 (uN z1) = bm (fun b => g2 (g1 b)) 8 (uN x) := by rw [e1, bm_bm b1]
  have b2 : ∀ b, b < 256 → g2 (g1 b) < 256 := fun b hb => (g12_d b hb).2.1
  have e2 : uN z2 = bm (fun b => g2 (g1 b)) 8 (uN x) := by
    have l2 := bm_lt (g := fun b => g2 (g1 b)) b2 8 (uN x)
    rw [hc] at l2
    rw [← hz2, uN_add, uN_and, uN_and, m3, show (2 : Int32) = ii 2 from rfl, uN_shr (by omega)]
    have : (uN z1 &&& mkM 51 8) + (uN z1 / 2 ^ 2 &&& mkM 51 8) = bm (fun b => g2 (g1 b)) 8 (uN x) := s2.trans e2'
    rw [this]
    exact Nat.mod_eq_of_lt l2
  have nb : nib 8 (uN z2) := by
    rw [e2]
    exact bm_nib (g := fun b => g2 (g1 b)) (fun b hb => ⟨(g12_d b hb).2.1, (g12_d b hb).2.2.1, (g12_d b hb).2.2.2.1⟩) 8 (uN x)
  have l2 : uN z2 < 256 ^ 8 := by rw [hc]; exact uN_lt z2
  have s3 := st3 8 (uN z2) l2 nb
  have e3' : bm g3 8 (uN z2) = bm pc8 8 (uN x) := by rw [e2, bm_bm (g := fun b => g2 (g1 b)) b2]; rfl
  have hb7 := (nb 7 (by omega)).2
  have e3 : uN z3 = bm pc8 8 (uN x) := by
    rw [← hz3, uN_and, m0, uN_add, show (4 : Int32) = ii 4 from rfl, uN_shr (by omega)]
    have hlt : uN z2 + uN z2 / 2 ^ 4 < 18446744073709551616 := by
      exact pa_h9 (uN_lt z2) hb7
    rw [Nat.mod_eq_of_lt hlt]
    exact s3.trans e3'
  obtain ⟨p0, p1, p2, p3, p4, p5, p6, p7, ⟨q0, q1, q2, q3, q4, q5, q6, q7⟩, e4, e5⟩ := pop8 (uN x)
  rw [e4] at e3
  obtain ⟨hle, hm⟩ := pop_ar q0 q1 q2 q3 q4 q5 q6 q7 e3
  have l4 := pa_2 (k := 256) hle
  have e8 : uN z4 = uN z3 + uN z3 / 256 := by
    rw [← hz4, uN_add, show (8 : Int32) = ii 8 from rfl, uN_shr (by omega)]
    exact Nat.mod_eq_of_lt (Nat.lt_of_le_of_lt l4 (by decide))
  rw [← e8] at l4 hm
  have l5 := pa_2 (k := 65536) l4
  have e16 : uN z5 = uN z4 + uN z4 / 65536 := by
    rw [← hz5, uN_add, show (16 : Int32) = ii 16 from rfl, uN_shr (by omega)]
    exact Nat.mod_eq_of_lt (Nat.lt_of_le_of_lt l5 (by decide))
  rw [← e16] at l5 hm
  have l6 := pa_2 (k := 4294967296) l5
  have e32 : uN z6 = uN z5 + uN z5 / 4294967296 := by
    rw [← hz6, uN_add, show (32 : Int32) = ii 32 from rfl, uN_shr (by omega)]
    exact Nat.mod_eq_of_lt (Nat.lt_of_le_of_lt l6 (by decide))
  rw [← e32] at hm
  have hmod : uN z6 % 128 = p0 + p1 + p2 + p3 + p4 + p5 + p6 + p7 := by
    rw [hm]
    clear hm l4 l5 l6 e8 e16 e32 hle e3 e4 e5 hb7 nb
    omega
  have hfin : z6.toInt32 &&& 127 = ii (uN z6 % 128) := by
    apply Int32.toBitVec_inj.mp
    rw [Int32.toBitVec_and]
    apply BitVec.eq_of_toNat_eq
    rw [BitVec.toNat_and]
    have e9 : z6.toInt32.toBitVec.toNat = uN z6 % 4294967296 := by
      have e6 : z6 = Int64.ofNat (uN z6) := Int64.toBitVec_inj.mp (by
        show z6.toBitVec = BitVec.ofNat 64 z6.toBitVec.toNat
        simp)
      have e7 : z6.toInt32 = Int32.ofNat (uN z6) := (congrArg Int64.toInt32 e6).trans Int64.toInt32_ofNat'
      rw [e7]
      show (BitVec.ofNat 32 (uN z6)).toNat = _
      rw [BitVec.toNat_ofNat]
    rw [e9]
    have e10 : (127 : Int32).toBitVec.toNat = 2 ^ 7 - 1 := by decide
    rw [e10, Nat.and_two_pow_sub_one_eq_mod]
    show _ = (BitVec.ofNat 32 (uN z6 % 128)).toNat
    rw [BitVec.toNat_ofNat]
    clear hmod hb7 nb e5 e4 e3
    omega
  rw [ef, hfin, hmod, ← e5]
  rfl
end ZPO

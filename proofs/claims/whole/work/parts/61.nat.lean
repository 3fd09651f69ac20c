/-! JOBS IN NATURAL NUMBERS: places P, times F; the plan of each job as natural numbers, the same for both sides. -/
section ZNA
def sP (s : Nat → Int32) (m : Nat) : Nat := zix (s (7 + 3 * m))
def sF (s : Nat → Int32) (m : Nat) : Nat := zix (s (7 + 3 * m + 1))
def sT (s : Nat → Int32) : Nat := zix (s 0)
def sR (s : Nat → Int32) (m : Nat) : Nat := max (sT s) (sF s m)
def dst (a b : Nat) : Nat := (a - b) + (b - a)
theorem ii_inj {a b : Nat} (ha : a < 4294967296) (hb : b < 4294967296) (h : ii a = ii b) : a = b := by
  have h1 : BitVec.ofNat 32 a = BitVec.ofNat 32 b := congrArg Int32.toBitVec h
  have h2 := congrArg BitVec.toNat h1
  rw [BitVec.toNat_ofNat, BitVec.toNat_ofNat] at h2
  omega
theorem ii_zix {x : Int32} (h : 0 ≤ x) : x = ii (zix x) := by
  obtain ⟨n, hn, rfl⟩ := ii_of h
  rw [zix_ii hn]
theorem zix_lt31 (x : Int32) : zix x < 2147483648 := by
  have h := x.toInt_lt
  show x.toInt.toNat < _
  omega
theorem zmax_ii {a b : Nat} (ha : a < 2147483648) (hb : b < 2147483648) : zmax (ii a) (ii b) = ii (max a b) := by
  unfold zmax
  by_cases h : a < b
  · rw [if_pos ((ii_lt ha hb).mpr h), Nat.max_eq_right (by omega)]
  · rw [if_neg (fun q => h ((ii_lt ha hb).mp q)), Nat.max_eq_left (by omega)]
theorem zmin_ii {a b : Nat} (ha : a < 2147483648) (hb : b < 2147483648) : zmin (ii a) (ii b) = ii (min a b) := by
  unfold zmin
  by_cases h : b < a
  · rw [if_pos ((ii_lt hb ha).mpr h), Nat.min_eq_right (by omega)]
  · rw [if_neg (fun q => h ((ii_lt hb ha).mp q)), Nat.min_eq_left (by omega)]
theorem zmin_max {a : Nat} (ha : a < 2147483648) : zmin 2147483647 (ii a) = ii a := by
  rw [show (2147483647 : Int32) = ii 2147483647 from rfl, zmin_ii (by omega) ha, Nat.min_eq_right (by omega)]
theorem zmax_0 {a : Nat} (ha : a < 2147483648) : zmax 0 (ii a) = ii a := by
  rw [show (0 : Int32) = ii 0 from rfl, zmax_ii (by omega) ha, Nat.max_eq_right (by omega)]
theorem zabs_ii {a b : Nat} (ha : a < 2147483648) (hb : b < 2147483648) : zabs (ii a - ii b) = ii (dst a b) := by
  unfold zabs dst
  by_cases h : b ≤ a
  · have e : ii a = ii (a - b) + ii b := by rw [ii_add]; congr 1; omega
    have e2 : ii a - ii b = ii (a - b) := by rw [e]; grind
    rw [e2, if_pos (ii_nn (by omega))]
    congr 1
    omega
  · have e : ii b = ii (b - a) + ii a := by rw [ii_add]; congr 1; omega
    have hn : ¬ 0 ≤ ii a - ii b := by
      intro q
      obtain ⟨m, hm, e9⟩ := ii_of q
      have e8 : ii a = ii (m + b) := by rw [← ii_add, ← e9]; grind
      have := ii_inj (by omega) (by omega) e8
      omega
    rw [if_neg hn]
    have e3 : 0 - (ii a - ii b) = ii (b - a) := by rw [e]; grind
    rw [e3]
    congr 1
    omega
theorem zabs_0 {b : Nat} (hb : b < 2147483648) : zabs (0 - ii b) = ii b := by
  rw [show (0 : Int32) = ii 0 from rfl, zabs_ii (by omega) hb]
  congr 1
  unfold dst
  omega
theorem zabs_r {b : Nat} (hb : b < 2147483648) : zabs (ii b - 0) = ii b := by
  rw [show (0 : Int32) = ii 0 from rfl, zabs_ii hb (by omega)]
  congr 1
  unfold dst
  omega
theorem dst_comm (a b : Nat) : dst a b = dst b a := by unfold dst; omega
theorem dst_le {a b m : Nat} (ha : a ≤ m) (hb : b ≤ m) : dst a b ≤ m := by unfold dst; omega
/-- times and places are natural numbers, the times at most B -/
def zN (s : Nat → Int32) (B : Nat) : Prop := s 0 = ii (sT s) ∧ sT s ≤ 9999 ∧ B ≤ 1000000000 ∧ ∀ m, m < 4 → s (7 + 3 * m) = ii (sP s m) ∧ sP s m ≤ 4 ∧ (m = 3 → sP s m ≤ 2) ∧ s (7 + 3 * m + 1) = ii (sF s m) ∧ sF s m ≤ B
theorem zN_of {s : Nat → Int32} {n k v : Nat} (h : zI s n k v) : zN s (9999 + 200 * (n + k + v)) := by
  obtain ⟨-, -, -, hk, hn, hv, -, ⟨h0, h9⟩, -, -, -, hm⟩ := h
  have g0 : s 0 = ii (sT s) := ii_zix h0
  have l0 : sT s < 2147483648 := zix_lt31 _
  refine ⟨g0, ?_, by omega, fun m q => ?_⟩
  · rw [g0, show (9999 : Int32) = ii 9999 from rfl, ii_le l0 (by omega)] at h9
    exact h9
  · obtain ⟨a1, a2, a3, a4, a5⟩ := hm m q
    have g1 : s (7 + 3 * m) = ii (sP s m) := ii_zix a1
    have g2 : s (7 + 3 * m + 1) = ii (sF s m) := ii_zix a4
    have l1 : sP s m < 2147483648 := zix_lt31 _
    have l2 : sF s m < 2147483648 := zix_lt31 _
    refine ⟨g1, ?_, fun q3 => ?_, g2, ?_⟩
    · rw [g1, show (4 : Int32) = ii 4 from rfl, ii_le l1 (by omega)] at a2
      exact a2
    · have a3 := a3 q3
      rw [g1, show (2 : Int32) = ii 2 from rfl, ii_le l1 (by omega)] at a3
      exact a3
    · rw [g2, ii_le l2 (by omega)] at a5
      exact a5
theorem pRdy_ii {s : Nat → Int32} {B m : Nat} (h : zN s B) (hm : m < 4) : pRdy s m = ii (sR s m) := by
  obtain ⟨g0, l0, hB, hm9⟩ := h
  obtain ⟨-, -, -, g2, l2⟩ := hm9 m hm
  unfold pRdy sR
  rw [g0, g2, zmax_ii (by omega) (by omega)]
theorem sR_le {s : Nat → Int32} {B m : Nat} (h : zN s B) (hm : m < 4) : sR s m ≤ max 9999 B := by
  obtain ⟨g0, l0, hB, hm9⟩ := h
  obtain ⟨-, -, -, g2, l2⟩ := hm9 m hm
  unfold sR
  omega
def qDo (s : Nat → Int32) (m e pl : Nat) : Nat → Int32 := pDoes s m (ii e) (ii pl)
theorem qDo_at {s : Nat → Int32} {m e pl i : Nat} : qDo s m e pl i = if i = 7 + 3 * m + 1 then ii e else if i = 7 + 3 * m + 2 then s (7 + 3 * m + 2) + (ii e - pRdy s m) else if i = 7 + 3 * m then ii pl else s i := rfl
theorem qDo_o {s : Nat → Int32} {m e pl i : Nat} (h : i < 7 + 3 * m ∨ 7 + 3 * m + 3 ≤ i) : qDo s m e pl i = s i := by
  rw [qDo_at, if_neg (by omega), if_neg (by omega), if_neg (by omega)]
theorem pRdy_qDo {s : Nat → Int32} {m m' e pl : Nat} (h : m' ≠ m) : pRdy (qDo s m e pl) m' = pRdy s m' := by
  unfold pRdy
  rw [qDo_o (by omega), qDo_o (by omega)]
def cCo (b : Nat) : Nat := b % 10 / 2
def qInMet (s : Nat → Int32) (b : Nat) : Nat := max (sR s 3 + 3 * sP s 3 + 2 + 3 * (b / 20)) (sR s (b / 20) + sP s (b / 20)) + 2
def qInEnd (s : Nat → Int32) (b : Nat) : Nat := qInMet s b + cCo b + (2 + b % 2)
def qInM (s : Nat → Int32) (b : Nat) : Nat → Int32 := qDo (qDo s 3 (qInMet s b) (b / 20)) (b / 20) (qInEnd s b) (cCo b)
def qInB (s : Nat → Int32) (b : Nat) : Nat := min (sR s 3) (sR s (b / 20))
def qInE (s : Nat → Int32) (b : Nat) : Nat := max (qInMet s b) (qInEnd s b)
def qOutMet (s : Nat → Int32) (b : Nat) : Nat := max (sR s 3 + 3 * dst (sP s 3) (b / 20)) (sR s (b / 20) + dst (sP s (b / 20)) (cCo b) + (2 + b % 2) + cCo b) + 2
def qOutEnd (s : Nat → Int32) (b : Nat) : Nat := qOutMet s b + 3 * (b / 20) + 2
def qOutM (s : Nat → Int32) (b : Nat) : Nat → Int32 := qDo (qDo s (b / 20) (qOutMet s b) 0) 3 (qOutEnd s b) 0
def qOutE (s : Nat → Int32) (b : Nat) : Nat := max (qOutMet s b) (qOutEnd s b)
def qMvOut (s : Nat → Int32) (b : Nat) : Nat := sR s (b / 20) + dst (sP s (b / 20)) (cCo b) + (2 + b % 2)
def qMvEnd (s : Nat → Int32) (b c : Nat) : Nat := qMvOut s b + dst (cCo b) (cCo c) + (2 + c % 2)
def qMoMet (s : Nat → Int32) (b : Nat) : Nat := max (qMvOut s b + cCo b) (sR s 3 + 3 * dst (sP s 3) (b / 20)) + 2
def qMoAg (s : Nat → Int32) (b c : Nat) : Nat := max (qMoMet s b + 3 * dst (b / 20) (c / 20)) (sR s (c / 20) + sP s (c / 20)) + 2
def qMoEnd (s : Nat → Int32) (b c : Nat) : Nat := qMoAg s b c + cCo c + (2 + c % 2)
def qMvM (s : Nat → Int32) (b c : Nat) : Nat → Int32 := if b / 20 = c / 20 then qDo s (b / 20) (qMvEnd s b c) (cCo c) else qDo (qDo (qDo s (b / 20) (qMoMet s b) 0) 3 (qMoAg s b c) (c / 20)) (c / 20) (qMoEnd s b c) (cCo c)
def qMvB (s : Nat → Int32) (b c : Nat) : Nat := if b / 20 = c / 20 then sR s (b / 20) else min (min (sR s (b / 20)) (sR s 3)) (sR s (c / 20))
def qMvE (s : Nat → Int32) (b c : Nat) : Nat := if b / 20 = c / 20 then qMvEnd s b c else max (max (qMoMet s b) (qMoAg s b c)) (qMoEnd s b c)
end ZNA

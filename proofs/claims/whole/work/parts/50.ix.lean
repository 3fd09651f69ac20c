/-! MATHEMATICS OF THE COMPUTED FUNCTIONS. Counters and indices as natural numbers: ii n. Loops as folds. -/
section ZIX
abbrev ii (n : Nat) : Int32 := Int32.ofNat n
theorem ii_int {n : Nat} (h : n < 2147483648) : (ii n).toInt = (n : Int) := by
  exact Int32.toInt_ofNat_of_lt (by omega)
theorem zix_ii {n : Nat} (h : n < 2147483648) : zix (ii n) = n := by
  show (ii n).toInt.toNat = n
  rw [ii_int h]
  omega
theorem zin_ii {n m : Nat} (h : n < 2147483648) : zin (ii n) m = decide (n < m) := by
  simp only [zin, ii_int h]
  by_cases h1 : n < m
  · simp [h1]
  · simp [h1]
theorem ii_add (a b : Nat) : ii a + ii b = ii (a + b) := (Int32.ofNat_add a b).symm
theorem ii_le {a b : Nat} (ha : a < 2147483648) (hb : b < 2147483648) : (ii a ≤ ii b) = (a ≤ b) := by
  rw [Int32.le_iff_toInt_le, ii_int ha, ii_int hb]
  simp
theorem ii_lt {a b : Nat} (ha : a < 2147483648) (hb : b < 2147483648) : (ii a < ii b) = (a < b) := by
  rw [Int32.lt_iff_toInt_lt, ii_int ha, ii_int hb]
  simp
theorem ii_eq {a b : Nat} (ha : a < 2147483648) (hb : b < 2147483648) : (ii a = ii b) = (a = b) := by
  apply propext
  constructor
  · intro h
    have := congrArg Int32.toInt h
    rw [ii_int ha, ii_int hb] at this
    omega
  · intro h; rw [h]
/-- a whole number that isn't negative is some ii -/
theorem ii_of {x : Int32} (h : 0 ≤ x) : ∃ n : Nat, n < 2147483648 ∧ x = ii n := by
  have h1 : 0 ≤ x.toInt := by
    have := Int32.le_iff_toInt_le.mp h
    simpa using this
  refine ⟨x.toInt.toNat, ?_, ?_⟩
  · have := x.toInt_lt
    omega
  · apply Int32.toInt_inj.mp
    rw [ii_int (by have := x.toInt_lt; omega)]
    omega
/-- a fold with its counter -/
def zfold {B : Type} (step : Nat → B → B) (i : Nat) : Nat → B → B
  | 0, b => b
  | m + 1, b => zfold step (i + 1) m (step i b)
theorem zfold_succ {B : Type} (step : Nat → B → B) (i m : Nat) (b : B) : zfold step i (m + 1) b = step (i + m) (zfold step i m b) := by
  induction m generalizing i b with
  | zero => rfl
  | succ m ih =>
    show zfold step (i + 1) (m + 1) (step i b) = _
    rw [ih]
    show step (i + 1 + m) (zfold step (i + 1) m (step i b)) = step (i + (m + 1)) (zfold step (i + 1) m (step i b))
    rw [show i + 1 + m = i + (m + 1) by omega]
/-- a loop that counts up -/
theorem zlp_for {A I B : Type} {F : (A → Option I) → A → Option I} (mk : Nat → B → A) (N : Nat) (step : Nat → B → B) (fin : B → Option I) (P : Nat → B → Prop)
    (hs : ∀ k i b, i < N → P i b → F k (mk i b) = k (mk (i + 1) (step i b)) ∧ P (i + 1) (step i b)) (hf : ∀ k b, P N b → F k (mk N b) = fin b) (m i : Nat) (b : B) (hi : i + m = N) (hP : P i b) (n : Nat) (hn : m < n) : zlp F n (mk i b) = fin (zfold step i m b) ∧ P N (zfold step i m b) := by
  induction m generalizing i b n with
  | zero =>
    obtain ⟨n, rfl⟩ : ∃ n', n = n' + 1 := ⟨n - 1, by omega⟩
    have hi : i = N := hi
    subst hi
    exact ⟨hf _ _ hP, hP⟩
  | succ m ih =>
    obtain ⟨n, rfl⟩ : ∃ n', n = n' + 1 := ⟨n - 1, by omega⟩
    obtain ⟨h1, h2⟩ := hs (zlp F n) i b (by omega) hP
    show F (zlp F n) (mk i b) = _ ∧ _
    rw [h1]
    exact ih (i + 1) (step i b) (by omega) h2 n (by omega)
end ZIX

/-! NO NaN comes of a quotient by a whole number other than 0. -/
section ZFM
def fOK (f : FP.Core.Fmt) : Prop := 0 < f.tails ∧ 2 ≤ f.exps ∧ 2 ^ f.p = 2 * f.tails ∧ f.qmax - f.qmin + 3 = (f.exps : Int) ∧ f.qmin ≤ f.qmax
theorem fOK32 : fOK FP.Core.b32 := ⟨by decide, by decide, by decide, by decide, by decide⟩
theorem fOK64 : fOK FP.Core.b64 := ⟨by decide, by decide, by decide, by decide, by decide⟩
theorem asm_mod {f : FP.Core.Fmt} (s : Bool) {e t : Nat} (he : e < f.exps) (ht : t < f.tails) : FP.Core.assemble f s e t % (f.tails * f.exps) = e * f.tails + t := by
  have h1 : FP.Core.assemble f s e t = (f.tails * f.exps) * s.toNat + (e * f.tails + t) := by
    unfold FP.Core.assemble
    rw [Nat.add_mul, Nat.add_assoc, Nat.mul_comm (s.toNat * f.exps), Nat.mul_comm s.toNat, ← Nat.mul_assoc]
  have h2 : e * f.tails + t < f.tails * f.exps := by
    have h3 : (e + 1) * f.tails ≤ f.exps * f.tails := Nat.mul_le_mul_right _ he
    rw [Nat.add_mul, Nat.one_mul] at h3
    rw [Nat.mul_comm f.tails]
    omega
  rw [h1, Nat.mul_add_mod, Nat.mod_eq_of_lt h2]
/-- data that roundings give -/
def okD (f : FP.Core.Fmt) : FP.Core.Datum → Prop
  | .nan => False
  | .inf _ => True
  | .fin _ c q => c < 2 ^ f.p ∧ q ≤ f.qmax
theorem enc_mag {f : FP.Core.Fmt} (hf : fOK f) {d : FP.Core.Datum} (h : okD f d) : FP.Core.encode f d % (f.tails * f.exps) ≤ (f.exps - 1) * f.tails := by
  obtain ⟨h1, h2, h3, h4, h5⟩ := hf
  cases d with
  | nan => exact absurd h id
  | inf s =>
    show FP.Core.assemble f s (f.exps - 1) 0 % _ ≤ _
    rw [asm_mod s (by omega) h1]
    omega
  | fin s c q =>
    obtain ⟨a, b⟩ := h
    show (if c < f.tails then FP.Core.assemble f s 0 c else FP.Core.assemble f s ((q - f.qmin).toNat + 1) (c - f.tails)) % _ ≤ _
    by_cases hc : c < f.tails
    · rw [if_pos hc, asm_mod s (by omega) hc]
      have : 1 * f.tails ≤ (f.exps - 1) * f.tails := Nat.mul_le_mul_right _ (by omega)
      omega
    · rw [if_neg hc, asm_mod s (by omega) (by omega)]
      have : ((q - f.qmin).toNat + 1 + 1) * f.tails ≤ (f.exps - 1) * f.tails := Nat.mul_le_mul_right _ (by omega)
      rw [Nat.add_mul _ 1, Nat.one_mul] at this
      omega
theorem dec_ne {f : FP.Core.Fmt} (hf : fOK f) {m : Nat} (h : m % (f.tails * f.exps) ≤ (f.exps - 1) * f.tails) : FP.Core.decode f m ≠ .nan := by
  obtain ⟨h1, h2, h3, h4, h5⟩ := hf
  unfold FP.Core.decode
  by_cases he : FP.Core.fieldE f m = f.exps - 1
  · have e1 : m % (f.tails * f.exps) / f.tails = f.exps - 1 := by rw [Nat.mod_mul_right_div_self]; exact he
    have e2 := Nat.div_add_mod (m % (f.tails * f.exps)) f.tails
    rw [e1, Nat.mod_mul_right_mod, Nat.mul_comm f.tails (f.exps - 1)] at e2
    have e3 : FP.Core.fieldT f m = 0 := by
      show m % f.tails = 0
      omega
    rw [if_pos he, if_pos e3]
    intro q
    cases q
  · rw [if_neg he]
    by_cases h0 : FP.Core.fieldE f m = 0
    · rw [if_pos h0]
      intro q
      cases q
    · rw [if_neg h0]
      intro q
      cases q
theorem dec_fin {f : FP.Core.Fmt} (hf : fOK f) {m : Nat} (h0 : m % (f.tails * f.exps) ≠ 0) (h : m % (f.tails * f.exps) < (f.exps - 1) * f.tails) : ∃ s c q, FP.Core.decode f m = .fin s c q ∧ c ≠ 0 := by
  obtain ⟨h1, h2, h3, h4, h5⟩ := hf
  have e2 := Nat.div_add_mod (m % (f.tails * f.exps)) f.tails
  rw [Nat.mod_mul_right_mod, Nat.mod_mul_right_div_self] at e2
  have e2 : f.tails * FP.Core.fieldE f m + FP.Core.fieldT f m = m % (f.tails * f.exps) := e2
  unfold FP.Core.decode
  have he : ¬ FP.Core.fieldE f m = f.exps - 1 := by
    intro q
    rw [q, Nat.mul_comm] at e2
    omega
  rw [if_neg he]
  by_cases hz : FP.Core.fieldE f m = 0
  · rw [hz, Nat.mul_zero] at e2
    rw [if_pos hz]
    exact ⟨_, _, _, rfl, by omega⟩
  · rw [if_neg hz]
    exact ⟨_, _, _, rfl, by omega⟩
theorem bnd_ok {f : FP.Core.Fmt} {s : Bool} {c : Nat} {q : Int} (hc : c < 2 ^ f.p) : okD f (FP.Core.bound f s c q) := by
  unfold FP.Core.bound
  by_cases h : q ≤ f.qmax
  · rw [if_pos h]
    exact ⟨hc, h⟩
  · rw [if_neg h]
    trivial
theorem ratio_ok {f : FP.Core.Fmt} (hf : fOK f) (s : Bool) (num den : Nat) (e : Int) : okD f (FP.Core.roundRatio f s num den e) := by
  obtain ⟨h1, h2, h3, h4, h5⟩ := hf
  unfold FP.Core.roundRatio
  by_cases h : num = 0
  · rw [if_pos h]
    exact ⟨by omega, h5⟩
  · rw [if_neg h]
    unfold FP.Core.roundAt FP.Core.settle
    split
    · rename_i hc
      exact bnd_ok hc
    · exact bnd_ok (by omega)
theorem round_ok {f : FP.Core.Fmt} (hf : fOK f) {d : FP.Core.Datum} (h : d ≠ .nan) : okD f (FP.Core.round f d) := by
  cases d with
  | nan => exact absurd rfl h
  | inf s => trivial
  | fin s c q => exact ratio_ok hf s c 1 q
theorem quot_ok {f : FP.Core.Fmt} (hf : fOK f) {x : FP.Core.Datum} {t : Bool} {d : Nat} {r : Int} (hx : x ≠ .nan) (hd : d ≠ 0) : okD f (FP.Core.quotient f x (.fin t d r)) := by
  cases x with
  | nan => exact absurd rfl hx
  | inf s => trivial
  | fin s c q =>
    show okD f (if d = 0 then (if c = 0 then .nan else .inf (s != t)) else FP.Core.roundRatio f (s != t) c d (q - r))
    rw [if_neg hd]
    exact ratio_ok hf _ _ _ _
/-- a whole number other than 0 of at most 32 digits is neither 0 nor infinite -/
theorem int_enc {f : FP.Core.Fmt} (hf : fOK f) (hq : 40 ≤ f.qmax) (hp : f.qmin ≤ 1 - (f.p : Int)) (hp1 : 1 ≤ f.p) (s : Bool) {b : Nat} (hb : b ≠ 0) (hb2 : b < 2 ^ 33) : FP.Core.encode f (FP.Core.roundRatio f s b 1 0) % (f.tails * f.exps) ≠ 0 ∧ FP.Core.encode f (FP.Core.roundRatio f s b 1 0) % (f.tails * f.exps) < (f.exps - 1) * f.tails := by
  have hf' := hf
  obtain ⟨h1, h2, h3, h4, h5⟩ := hf'
  have hlog : b.log2 < 33 := (Nat.log2_lt hb).mpr hb2
  have hle : 2 ^ b.log2 ≤ b := Nat.log2_self_le hb
  have hlead : FP.Core.leading b 1 = (b.log2 : Int) := by
    unfold FP.Core.leading
    have e1 : Nat.log2 1 = 0 := by decide
    simp only [e1]
    rw [if_pos]
    · simp
    · have e2 : ((b.log2 : Int) - ((0 : Nat) : Int)).toNat = b.log2 := by omega
      have e3 : (-((b.log2 : Int) - ((0 : Nat) : Int))).toNat = 0 := by omega
      rw [e2, e3]
      omega
  have hqt : FP.Core.quantum f b 1 0 = (b.log2 : Int) - ((f.p : Int) - 1) := by
    unfold FP.Core.quantum
    rw [hlead]
    omega
  obtain ⟨q, hqe⟩ : ∃ q, q = FP.Core.quantum f b 1 0 := ⟨_, rfl⟩
  have hc1 : 1 ≤ FP.Core.nearest (FP.Core.unitsNum b 0 q) (FP.Core.unitsDen 1 0 q) := by
    have hd : 1 ≤ FP.Core.unitsNum b 0 q / FP.Core.unitsDen 1 0 q := by
      rw [Nat.le_div_iff_mul_le (by unfold FP.Core.unitsDen; exact Nat.mul_pos (by omega) (Nat.two_pow_pos _)), Nat.one_mul]
      unfold FP.Core.unitsDen FP.Core.unitsNum
      rw [Nat.one_mul]
      have a1 : 2 ^ (q - 0).toNat ≤ 2 ^ b.log2 := Nat.pow_le_pow_right (by omega) (by omega)
      have a2 : b * 1 ≤ b * 2 ^ (0 - q).toNat := Nat.mul_le_mul_left _ (Nat.two_pow_pos _)
      omega
    unfold FP.Core.nearest
    split
    · exact hd
    · split
      · omega
      · omega
  have key : ∃ c q', 1 ≤ c ∧ c < 2 ^ f.p ∧ f.qmin ≤ q' ∧ q' ≤ 34 ∧ FP.Core.roundRatio f s b 1 0 = .fin s c q' := by
    unfold FP.Core.roundRatio
    rw [if_neg hb]
    unfold FP.Core.roundAt FP.Core.settle
    rw [← hqe]
    split
    · rename_i hlt
      unfold FP.Core.bound
      rw [if_pos (by omega)]
      exact ⟨_, q, hc1, hlt, by omega, by omega, rfl⟩
    · unfold FP.Core.bound
      rw [if_pos (by omega)]
      exact ⟨_, q + 1, h1, by omega, by omega, by omega, rfl⟩
  obtain ⟨c, q', k1, k2, k3, k4, k5⟩ := key
  rw [k5]
  have e : FP.Core.encode f (.fin s c q') = if c < f.tails then FP.Core.assemble f s 0 c else FP.Core.assemble f s ((q' - f.qmin).toNat + 1) (c - f.tails) := rfl
  rw [e]
  by_cases hc : c < f.tails
  · rw [if_pos hc, asm_mod s (by omega) hc]
    have : 1 * f.tails ≤ (f.exps - 1) * f.tails := Nat.mul_le_mul_right _ (by omega)
    omega
  · rw [if_neg hc, asm_mod s (by omega) (by omega)]
    have : ((q' - f.qmin).toNat + 1 + 1) * f.tails ≤ (f.exps - 1) * f.tails := Nat.mul_le_mul_right _ (by omega)
    have h9 : 1 * f.tails ≤ ((q' - f.qmin).toNat + 1) * f.tails := Nat.mul_le_mul_right _ (by omega)
    rw [Nat.add_mul _ 1, Nat.one_mul] at this
    omega
theorem zn32_of {n : Nat} (h : n % (FP.Core.b32.tails * FP.Core.b32.exps) ≤ (FP.Core.b32.exps - 1) * FP.Core.b32.tails) : zn32 (UInt32.ofNat n) = true := by
  have h : n % 2147483648 ≤ 2139095040 := h
  refine decide_eq_true ?_
  rw [UInt32.le_iff_toNat_le, UInt32.toNat_and, UInt32.toNat_ofNat']
  show (n % 2 ^ 32) &&& 2147483647 ≤ 2139095040
  have e : (n % 2 ^ 32) &&& 2147483647 = (n % 2 ^ 32) % 2 ^ 31 := Nat.and_two_pow_sub_one_eq_mod _ 31
  omega
theorem zn64_of {n : Nat} (h : n % (FP.Core.b64.tails * FP.Core.b64.exps) ≤ (FP.Core.b64.exps - 1) * FP.Core.b64.tails) : zn64 (UInt64.ofNat n) = true := by
  have h : n % 9223372036854775808 ≤ 9218868437227405312 := h
  refine decide_eq_true ?_
  rw [UInt64.le_iff_toNat_le, UInt64.toNat_and, UInt64.toNat_ofNat']
  show (n % 2 ^ 64) &&& 9223372036854775807 ≤ 9218868437227405312
  have e : (n % 2 ^ 64) &&& 9223372036854775807 = (n % 2 ^ 64) % 2 ^ 63 := Nat.and_two_pow_sub_one_eq_mod _ 63
  omega
theorem u32_mod (n : Nat) : (UInt32.ofNat n).toNat % (FP.Core.b32.tails * FP.Core.b32.exps) = n % (FP.Core.b32.tails * FP.Core.b32.exps) := by
  rw [UInt32.toNat_ofNat']
  show (n % 2 ^ 32) % 2147483648 = n % 2147483648
  omega
theorem u64_mod (n : Nat) : (UInt64.ofNat n).toNat % (FP.Core.b64.tails * FP.Core.b64.exps) = n % (FP.Core.b64.tails * FP.Core.b64.exps) := by
  rw [UInt64.toNat_ofNat']
  show (n % 2 ^ 64) % 9223372036854775808 = n % 9223372036854775808
  omega
theorem int_abs (b : Int32) : b.toInt.natAbs < 2 ^ 33 := by
  have h1 := Int32.toInt_lt b
  have h2 := Int32.le_toInt b
  omega
theorem int_ne {b : Int32} (hb : b ≠ 0) : b.toInt.natAbs ≠ 0 := by
  intro h
  have h0 : b.toInt = 0 := by omega
  exact hb (Int32.toInt_inj.mp h0)
theorem zflt : zFLT := by
  intro a b hb
  have x1 : FP.Core.decode FP.Core.b32 (FP.Core.i2f a).toNat ≠ .nan := dec_ne fOK32 (by
    show (UInt32.ofNat _).toNat % _ ≤ _
    rw [u32_mod]
    exact enc_mag fOK32 (ratio_ok fOK32 _ _ _ _))
  have x2 : FP.Core.decode FP.Core.b64 (FP.Core.i2d a).toNat ≠ .nan := dec_ne fOK64 (by
    show (UInt64.ofNat _).toNat % _ ≤ _
    rw [u64_mod]
    exact enc_mag fOK64 (ratio_ok fOK64 _ _ _ _))
  obtain ⟨y1, y2⟩ := int_enc fOK32 (by decide) (by decide) (by decide) (decide (b.toInt < 0)) (int_ne hb) (int_abs b)
  obtain ⟨y3, y4⟩ := int_enc fOK64 (by decide) (by decide) (by decide) (decide (b.toInt < 0)) (int_ne hb) (int_abs b)
  obtain ⟨t1, d1, r1, e1, n1⟩ := dec_fin (m := (FP.Core.i2f b).toNat) fOK32 (by
    show (UInt32.ofNat _).toNat % _ ≠ _
    rw [u32_mod]
    exact y1) (by
    show (UInt32.ofNat _).toNat % _ < _
    rw [u32_mod]
    exact y2)
  obtain ⟨t2, d2, r2, e2, n2⟩ := dec_fin (m := (FP.Core.i2d b).toNat) fOK64 (by
    show (UInt64.ofNat _).toNat % _ ≠ _
    rw [u64_mod]
    exact y3) (by
    show (UInt64.ofNat _).toNat % _ < _
    rw [u64_mod]
    exact y4)
  have q1 : okD FP.Core.b32 (FP.Core.quotient FP.Core.b32 (FP.Core.decode FP.Core.b32 (FP.Core.i2f a).toNat) (FP.Core.decode FP.Core.b32 (FP.Core.i2f b).toNat)) := by
    rw [e1]
    exact quot_ok fOK32 x1 n1
  have q2 : okD FP.Core.b64 (FP.Core.quotient FP.Core.b64 (FP.Core.decode FP.Core.b64 (FP.Core.i2d a).toNat) (FP.Core.decode FP.Core.b64 (FP.Core.i2d b).toNat)) := by
    rw [e2]
    exact quot_ok fOK64 x2 n2
  have m1 : FP.Core.decode FP.Core.b32 (FP.Core.fdiv (FP.Core.i2f a) (FP.Core.i2f b)).toNat ≠ .nan := dec_ne fOK32 (by
    show (UInt32.ofNat _).toNat % _ ≤ _
    rw [u32_mod]
    exact enc_mag fOK32 q1)
  refine ⟨zn32_of (enc_mag fOK32 q1), ?_, zn64_of (enc_mag fOK64 q2)⟩
  have hn : FP.Core.fIsNaN (FP.Core.fdiv (FP.Core.i2f a) (FP.Core.i2f b)) = false := decide_eq_false m1
  have hf : FP.f2d (FP.fdiv (FP.i2f a) (FP.i2f b)) = FP.Core.f2d (FP.Core.fdiv (FP.Core.i2f a) (FP.Core.i2f b)) := by
    unfold FP.f2d
    exact if_neg (fun q => by rw [hn] at q; cases q)
  rw [hf]
  exact zn64_of (enc_mag fOK64 (round_ok fOK64 m1))
theorem int_cmp (v : Int) : compare v v = Ordering.eq := by
  show (if v < v then Ordering.lt else if v = v then Ordering.eq else Ordering.gt) = _
  rw [if_neg (by omega), if_pos rfl]
theorem zfld : zFLD := by
  intro x h
  have h := of_decide_eq_true h
  rw [UInt64.le_iff_toNat_le, UInt64.toNat_and] at h
  have h : x.toNat &&& 9223372036854775807 ≤ 9218868437227405312 := h
  have e : x.toNat &&& 9223372036854775807 = x.toNat % 2 ^ 63 := Nat.and_two_pow_sub_one_eq_mod _ 63
  have hd : FP.Core.decode FP.Core.b64 x.toNat ≠ .nan := dec_ne fOK64 (by
    show x.toNat % 9223372036854775808 ≤ 9218868437227405312
    omega)
  have ho : ∀ d : FP.Core.Datum, d ≠ .nan → FP.Core.order d d = some .eq := by
    intro d hd
    cases d with
    | nan => exact absurd rfl hd
    | inf s =>
      show some (compare (FP.Core.signed s 1) (FP.Core.signed s 1)) = some .eq
      rw [int_cmp]
    | fin s c q =>
      show some (compare (FP.Core.signed s _) (FP.Core.signed s _)) = some .eq
      rw [int_cmp]
  have h3 : FP.dcmp x x = some .eq := ho _ hd
  rw [h3]
  rfl
end ZFM

/-! MACHINES: a garage's four machines as one function ms : Nat -> place, free from, minutes. -/
section ZMA
abbrev Zt3 : Type := Int32 × Int32 × Int32
def zrd (x : Zt3) (i : Nat) (d : Int32) : Int32 := if i = 1 then x.1 else if i = 2 then x.2.1 else if i = 3 then x.2.2 else d
def zMw (w : Zw) (g : Nat) (ms : Nat → Zt3) : Zw := fun j i => if j = g + 10 then zrd (ms 3) i (w j i) else if g + 13 ≤ j ∧ j < g + 16 then zrd (ms (j - (g + 13))) i (w j i) else w j i
def mset (ms : Nat → Zt3) (m : Nat) (x : Zt3) : Nat → Zt3 := fun m' => if m' = m then x else ms m'
theorem zMw_at {w : Zw} {g : Nat} {ms : Nat → Zt3} {m : Nat} (hm : m < 4) (i : Nat) : zMw w g ms (zmc g m) i = zrd (ms m) i (w (zmc g m) i) := by
  unfold zMw zmc
  by_cases h : m = 3
  · subst h
    simp
  · rw [if_neg h, if_neg (by omega), if_pos (by omega)]
    have e : g + 13 + m - (g + 13) = m := by omega
    rw [e]
theorem zMw_ne {w : Zw} {g : Nat} {ms : Nat → Zt3} {j : Nat} (h : j ≠ g + 10) (h2 : j < g + 13 ∨ g + 16 ≤ j) : zMw w g ms j = w j := by
  funext i
  unfold zMw
  rw [if_neg h, if_neg (by omega)]
theorem zput_zMw {w : Zw} {g : Nat} {ms : Nat → Zt3} {m k : Nat} (hm : m < 4) (x : Int32) (y : Zt3) (hy : ∀ i d, zrd y i d = if i = k then x else zrd (ms m) i d) : zput (zMw w g ms) (zmc g m) k x = zMw w g (mset ms m y) := by
  funext j i
  by_cases h : j = zmc g m
  · subst h
    rw [zMw_at hm]
    simp only [zput, true_and, mset, if_pos]
    rw [hy, zMw_at hm]
  · have h1 : zput (zMw w g ms) (zmc g m) k x j i = zMw w g ms j i := by simp [zput, h]
    rw [h1]
    unfold zMw
    by_cases h3 : j = g + 10
    · have h4 : ¬ (3 = m) := fun q => h (by subst q; simp [zmc, h3])
      simp only [h3, if_pos, mset, if_neg h4]
    · rw [if_neg h3, if_neg h3]
      by_cases h5 : g + 13 ≤ j ∧ j < g + 16
      · have h4 : ¬ (j - (g + 13) = m) := fun q => h (by
          have : ¬ m = 3 := by omega
          rw [zmc, if_neg this]
          omega)
        rw [if_pos h5, if_pos h5]
        simp only [mset, if_neg h4]
      · rw [if_neg h5, if_neg h5]
theorem zput_M1 {w : Zw} {g : Nat} {ms : Nat → Zt3} {m : Nat} (hm : m < 4) (x : Int32) : zput (zMw w g ms) (zmc g m) 1 x = zMw w g (mset ms m (x, (ms m).2)) :=
  zput_zMw hm x _ (fun i d => by
    simp only [zrd]
    by_cases h1 : i = 1
    · subst h1; simp
    · by_cases h2 : i = 2
      · subst h2; simp
      · by_cases h3 : i = 3
        · subst h3; simp
        · simp [h1, h2, h3])
theorem zput_M2 {w : Zw} {g : Nat} {ms : Nat → Zt3} {m : Nat} (hm : m < 4) (x : Int32) : zput (zMw w g ms) (zmc g m) 2 x = zMw w g (mset ms m ((ms m).1, x, (ms m).2.2)) :=
  zput_zMw hm x _ (fun i d => by
    simp only [zrd]
    by_cases h1 : i = 1
    · subst h1; simp
    · by_cases h2 : i = 2
      · subst h2; simp
      · by_cases h3 : i = 3
        · subst h3; simp
        · simp [h1, h2, h3])
theorem zput_M3 {w : Zw} {g : Nat} {ms : Nat → Zt3} {m : Nat} (hm : m < 4) (x : Int32) : zput (zMw w g ms) (zmc g m) 3 x = zMw w g (mset ms m ((ms m).1, (ms m).2.1, x)) :=
  zput_zMw hm x _ (fun i d => by
    simp only [zrd]
    by_cases h1 : i = 1
    · subst h1; simp
    · by_cases h2 : i = 2
      · subst h2; simp
      · by_cases h3 : i = 3
        · subst h3; simp
        · simp [h1, h2, h3])
theorem mset_mset {ms : Nat → Zt3} {m : Nat} {x y : Zt3} : mset (mset ms m x) m y = mset ms m y := by
  funext a
  unfold mset
  split <;> rfl
theorem mset_at {ms : Nat → Zt3} {m : Nat} {x : Zt3} : mset ms m x m = x := by simp [mset]
theorem mset_ne {ms : Nat → Zt3} {m m' : Nat} {x : Zt3} (h : m' ≠ m) : mset ms m x m' = ms m' := by simp [mset, h]
section
variable {S : Zs} {w : Zw} {g m : Nat} {ms : Nat → Zt3}
theorem zMw_1 (hm : m < 4) : zMw w g ms (zmc g m) 1 = (ms m).1 := by rw [zMw_at hm]; rfl
theorem zMw_2 (hm : m < 4) : zMw w g ms (zmc g m) 2 = (ms m).2.1 := by rw [zMw_at hm]; rfl
theorem zMw_3 (hm : m < 4) : zMw w g ms (zmc g m) 3 = (ms m).2.2 := by rw [zMw_at hm]; rfl
theorem zMw_0 (hm : m < 4) : zMw w g ms (zmc g m) 0 = w (zmc g m) 0 := by rw [zMw_at hm]; rfl
theorem m4_start (hm : m < 4) (now : Int32) : f_X4_start S (zMw w g ms) (zmc g m) now = some (zmax now (ms m).2.1, zMw w g (mset ms m ((ms m).1, zmax now (ms m).2.1, (ms m).2.2 - zmax now (ms m).2.1))) := by
  simp only [f_X4_start, zlet, zMw_2 hm, zput_M2 hm, zMw_3 hm, zput_M3 hm, mset_at, mset_mset]
theorem m4_goTo (hm : m < 4) (t : Int32) : f_X4_goTo S (zMw w g ms) (zmc g m) t = some ((), zMw w g (mset ms m (t, (ms m).2.1 + zabs (t - (ms m).1) * w (zmc g m) 0, (ms m).2.2))) := by
  simp only [f_X4_goTo, zlet, zMw_2 hm, zMw_1 hm, zMw_0 hm, zput_M2 hm, zput_M1 hm, mset_at, mset_mset]
theorem m4_work (hm : m < 4) (t : Int32) : f_X4_work S (zMw w g ms) (zmc g m) t = some ((), zMw w g (mset ms m ((ms m).1, (ms m).2.1 + t, (ms m).2.2))) := by
  simp only [f_X4_work, zlet, zMw_2 hm, zput_M2 hm]
theorem m4_finish (hm : m < 4) : f_X4_finish S (zMw w g ms) (zmc g m) = some ((ms m).2.1, zMw w g (mset ms m ((ms m).1, (ms m).2.1, (ms m).2.2 + (ms m).2.1))) := by
  simp only [f_X4_finish, zlet, zMw_2 hm, zMw_3 hm, zput_M3 hm, mset_at]
theorem m4_handOver {m' : Nat} (hm : m < 4) (hm' : m' < 4) (hne : m' ≠ m) : f_X4_handOver S (zMw w g ms) (zmc g m) (zmc g m') = some ((), zMw w g (mset (mset ms m ((ms m).1, zmax (ms m).2.1 (ms m').2.1 + 2, (ms m).2.2)) m' ((ms m').1, zmax (ms m).2.1 (ms m').2.1 + 2, (ms m').2.2))) := by
  simp only [f_X4_handOver, zlet, zMw_2 hm, zMw_2 hm', zput_M2 hm, zput_M2 hm', mset_ne hne]
end
end ZMA

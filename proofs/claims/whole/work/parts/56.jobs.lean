/-! JOBS of the class's plant, as a function on the machines: new machines, begin, end. -/
section ZJB
variable {S : Zs} {w : Zw} {g : Nat} {ms : Nat → Zt3}
theorem zMw_self (w : Zw) (g : Nat) : zMw w g (fun m => (w (zmc g m) 1, w (zmc g m) 2, w (zmc g m) 3)) = w := by
  funext j i
  unfold zMw zrd zmc
  by_cases h : j = g + 10
  · subst h
    simp only [if_pos]
    by_cases h1 : i = 1
    · subst h1; simp
    · by_cases h2 : i = 2
      · subst h2; simp
      · by_cases h3 : i = 3
        · subst h3; simp
        · simp [h1, h2, h3]
  · rw [if_neg h]
    by_cases h5 : g + 13 ≤ j ∧ j < g + 16
    · rw [if_pos h5]
      have h6 : ¬ (j - (g + 13) = 3) := by omega
      have h7 : g + 13 + (j - (g + 13)) = j := by omega
      simp only [if_neg h6, h7]
      by_cases h1 : i = 1
      · subst h1; simp
      · by_cases h2 : i = 2
        · subst h2; simp
        · by_cases h3 : i = 3
          · subst h3; simp
          · simp [h1, h2, h3]
    · rw [if_neg h5]
theorem zlev (hG : zGar S g) {b : Nat} (hb : b < 60) : zr S (zr S (g + 8) 0) (zix (f_X7_levelOf (ii b))) = zmc g (b / 20) := by
  rw [zg8_0 hG, (geo7 b hb).1, zix_ii (by omega)]
  have h : b / 20 = 0 ∨ b / 20 = 1 ∨ b / 20 = 2 := by omega
  rcases h with h | h | h <;> rw [h]
  · exact zg9_0 hG
  · exact zg9_1 hG
  · exact zg9_2 hG
theorem zlev' (hG : zGar S g) {b : Nat} (hb : b < 60) : zr S (zr S (g + 8) 0) (zix (ii (b / 20))) = zmc g (b / 20) := by
  have h := zlev hG hb
  rwa [(geo7 b hb).1] at h
theorem zlift (hG : zGar S g) : zr S (g + 8) 1 = zmc g 3 := zg8_1 hG
theorem zlevin (hG : zGar S g) {b : Nat} (hb : b < 60) : zin (f_X7_levelOf (ii b)) (zlen S (zr S (g + 8) 0)) = true := by
  rw [zg8_0 hG, zgl9 hG, (geo7 b hb).1]
  exact zin_t (by omega) (by omega)
theorem zMw_8 (i : Nat) : zMw w g ms (g + 8) i = w (g + 8) i := by rw [zMw_ne (by omega) (by omega)]
def jIn (ms : Nat → Zt3) (now : Int32) (b : Nat) : (Nat → Zt3) × Int32 × Int32 :=
  let l := b / 20
  let f1 := zmax now (ms 3).2.1
  let f2 := zmax now (ms l).2.1
  let met := zmax (f1 + zabs (0 - (ms 3).1) * 3 + 2 + zabs (ii l - 0) * 3) (f2 + zabs (0 - (ms l).1) * 1) + 2
  let e := met + zabs (ii (b % 10 / 2) - 0) * 1 + (2 + ii (b % 2))
  (mset (mset ms 3 (ii l, met, (ms 3).2.2 - f1 + met)) l (ii (b % 10 / 2), e, (ms l).2.2 - f2 + e), zmin f1 f2, zmax met e)
theorem mset_comm {a c : Nat} {x y : Zt3} (h : a ≠ c) : mset (mset ms a x) c y = mset (mset ms c y) a x := by
  funext j
  unfold mset
  by_cases h1 : j = c
  · have : ¬ j = a := fun q => h (q.symm.trans h1)
    simp [h1, Ne.symm h]
  · simp [h1]
theorem mset_aca {a c : Nat} {x x' y : Zt3} (h : a ≠ c) : mset (mset (mset ms a x) c y) a x' = mset (mset ms a x') c y := by
  rw [mset_comm h, mset_mset, mset_comm (Ne.symm h)]
theorem zbs {A B : Type} (x : A) (f : A → Option B) : (some x).bind f = f x := by
  have h := Option.bind_some x f
  exact h
theorem zlet_eq {A B : Type} (a : A) (f : A → B) : zlet a f = f a := by
  have h : zlet a f = f a := rfl
  exact h
theorem zwork {b : Nat} (hb : b < 60) : f_X6_workAt (ii b) = 2 + ii (b % 2) := by
  unfold f_X6_workAt
  rw [(geo7 b hb).2.2.1]
theorem m6_bringIn0 (hG : zGar S g) (hp : ∀ m, m < 4 → w (zmc g m) 0 = if m = 3 then 3 else 1) (car : Int32) {b : Nat} (hb : b < 60) {f1 f2 a1 a2 met e : Int32} (e1 : zmax (w (g + 8) 3) (ms 3).2.1 = f1) (e2 : zmax (w (g + 8) 3) (ms (b / 20)).2.1 = f2)
    (e3 : f1 + zabs (0 - (ms 3).1) * 3 + 2 + zabs (ii (b / 20) - 0) * 3 = a1) (e4 : f2 + zabs (0 - (ms (b / 20)).1) * 1 = a2) (e5 : zmax a1 a2 + 2 = met) (e6 : met + zabs (ii (b % 10 / 2) - 0) * 1 + (2 + ii (b % 2)) = e) :
    f_X6_bringIn S (zMw w g ms) (g + 8) car (ii b) = (f_X3_add S (zMw w g (mset (mset ms 3 (ii (b / 20), met, (ms 3).2.2 - f1 + met)) (b / 20) (ii (b % 10 / 2), e, (ms (b / 20)).2.2 - f2 + e))) (g + 11) car (-1) (ii b) (zmin f1 f2) (zmax met e)).bind fun r => some ((), r.2) := by
  have h3 : 3 < 4 := by omega
  have hl : b / 20 < 4 := by omega
  have hne : b / 20 ≠ 3 := by omega
  have hp3 : w (zmc g 3) 0 = 3 := by rw [hp 3 h3]; rfl
  have hpl : w (zmc g (b / 20)) 0 = 1 := by rw [hp _ hl, if_neg hne]
  unfold f_X6_bringIn
  rw [if_pos (zlevin hG hb)]
  simp only [zlev' hG hb, zlift hG, zMw_8, m4_start h3, m4_start hl, m4_goTo h3, m4_goTo hl, m4_work h3, m4_work hl, m4_handOver h3 hl hne, m4_finish h3, m4_finish hl, zbs, zlet_eq, (geo7 b hb).1, (geo7 b hb).2.1, (geo7 b hb).2.2.1, zwork hb, zg8_2 hG, hp3, hpl, mset_at, mset_ne hne, mset_ne (Ne.symm hne), mset_mset, mset_aca (Ne.symm hne), e1, e2, e3, e4, e5, e6]
theorem m6_bringOut0 (hG : zGar S g) (hp : ∀ m, m < 4 → w (zmc g m) 0 = if m = 3 then 3 else 1) (car : Int32) {b : Nat} (hb : b < 60) {f1 f2 a1 a2 met e : Int32} (e1 : zmax (w (g + 8) 3) (ms 3).2.1 = f1) (e2 : zmax (w (g + 8) 3) (ms (b / 20)).2.1 = f2)
    (e4 : f2 + zabs (ii (b % 10 / 2) - (ms (b / 20)).1) * 1 + (2 + ii (b % 2)) + zabs (0 - ii (b % 10 / 2)) * 1 = a2) (e3 : f1 + zabs (ii (b / 20) - (ms 3).1) * 3 = a1) (e5 : zmax a2 a1 + 2 = met) (e6 : met + zabs (0 - ii (b / 20)) * 3 + 2 = e) :
    f_X6_bringOut S (zMw w g ms) (g + 8) car (ii b) = (f_X3_add S (zMw w g (mset (mset ms 3 (0, e, (ms 3).2.2 - f1 + e)) (b / 20) (0, met, (ms (b / 20)).2.2 - f2 + met))) (g + 11) car (ii b) (-1) (zmin f1 f2) (zmax e met)).bind fun r => some ((), r.2) := by
  have h3 : 3 < 4 := by omega
  have hl : b / 20 < 4 := by omega
  have hne : b / 20 ≠ 3 := by omega
  have hp3 : w (zmc g 3) 0 = 3 := by rw [hp 3 h3]; rfl
  have hpl : w (zmc g (b / 20)) 0 = 1 := by rw [hp _ hl, if_neg hne]
  unfold f_X6_bringOut
  rw [if_pos (zlevin hG hb)]
  simp only [zlev' hG hb, zlift hG, zMw_8, m4_start h3, m4_start hl, m4_goTo h3, m4_goTo hl, m4_work h3, m4_work hl, m4_handOver hl h3 (Ne.symm hne), m4_finish h3, m4_finish hl, zbs, zlet_eq, (geo7 b hb).1, (geo7 b hb).2.1, (geo7 b hb).2.2.1, zwork hb, zg8_2 hG, hp3, hpl, mset_at, mset_ne hne, mset_ne (Ne.symm hne), mset_mset, mset_aca (Ne.symm hne), e1, e2, e3, e4, e5, e6]
theorem m6_moveOnLevel0 (hG : zGar S g) (hp : ∀ m, m < 4 → w (zmc g m) 0 = if m = 3 then 3 else 1) (car : Int32) {b c : Nat} (hb : b < 60) (hc : c < 60) {f2 e : Int32} (e2 : zmax (w (g + 8) 3) (ms (b / 20)).2.1 = f2)
    (e6 : f2 + zabs (ii (b % 10 / 2) - (ms (b / 20)).1) * 1 + (2 + ii (b % 2)) + zabs (ii (c % 10 / 2) - ii (b % 10 / 2)) * 1 + (2 + ii (c % 2)) = e) :
    f_X6_moveOnLevel S (zMw w g ms) (g + 8) car (ii b) (ii c) = (f_X3_add S (zMw w g (mset ms (b / 20) (ii (c % 10 / 2), e, (ms (b / 20)).2.2 - f2 + e))) (g + 11) car (ii b) (ii c) f2 e).bind fun r => some ((), r.2) := by
  have hl : b / 20 < 4 := by omega
  have hne : b / 20 ≠ 3 := by omega
  have hpl : w (zmc g (b / 20)) 0 = 1 := by rw [hp _ hl, if_neg hne]
  unfold f_X6_moveOnLevel
  rw [if_pos (zlevin hG hb)]
  simp only [zlev' hG hb, zMw_8, m4_start hl, m4_goTo hl, m4_work hl, m4_finish hl, zbs, zlet_eq, (geo7 b hb).1, (geo7 b hb).2.1, (geo7 b hb).2.2.1, (geo7 c hc).2.1, zwork hb, zwork hc, zg8_2 hG, hpl, mset_at, mset_mset, e2, e6]
theorem mset_acda {a c d : Nat} {x x' y z : Zt3} (h : a ≠ c) (h2 : a ≠ d) : mset (mset (mset (mset ms a x) c y) d z) a x' = mset (mset (mset ms a x') c y) d z := by
  rw [mset_comm (Ne.symm h2), mset_aca h]
theorem m6_moveToOther0 (hG : zGar S g) (hp : ∀ m, m < 4 → w (zmc g m) 0 = if m = 3 then 3 else 1) (car : Int32) {b c : Nat} (hb : b < 60) (hc : c < 60) (hbc : b / 20 ≠ c / 20) {f1 f2 f3 a1 a2 a3 a4 met again e : Int32} (e1 : zmax (w (g + 8) 3) (ms 3).2.1 = f1) (e2 : zmax (w (g + 8) 3) (ms (b / 20)).2.1 = f2) (e3 : zmax (w (g + 8) 3) (ms (c / 20)).2.1 = f3)
    (e4 : f2 + zabs (ii (b % 10 / 2) - (ms (b / 20)).1) * 1 + (2 + ii (b % 2)) + zabs (0 - ii (b % 10 / 2)) * 1 = a2) (e5 : f1 + zabs (ii (b / 20) - (ms 3).1) * 3 = a1) (e6 : zmax a2 a1 + 2 = met) (e7 : met + zabs (ii (c / 20) - ii (b / 20)) * 3 = a3) (e8 : f3 + zabs (0 - (ms (c / 20)).1) * 1 = a4) (e9 : zmax a3 a4 + 2 = again) (e10 : again + zabs (ii (c % 10 / 2) - 0) * 1 + (2 + ii (c % 2)) = e) :
    f_X6_moveToOtherLevel S (zMw w g ms) (g + 8) car (ii b) (ii c) = (f_X3_add S (zMw w g (mset (mset (mset ms 3 (ii (c / 20), again, (ms 3).2.2 - f1 + again)) (b / 20) (0, met, (ms (b / 20)).2.2 - f2 + met)) (c / 20) (ii (c % 10 / 2), e, (ms (c / 20)).2.2 - f3 + e))) (g + 11) car (ii b) (ii c) (zmin f1 (zmin f2 f3)) (zmax again (zmax met e))).bind fun r => some ((), r.2) := by
  have h3 : 3 < 4 := by omega
  have hl : b / 20 < 4 := by omega
  have hk : c / 20 < 4 := by omega
  have hne : b / 20 ≠ 3 := by omega
  have hnc : c / 20 ≠ 3 := by omega
  have hp3 : w (zmc g 3) 0 = 3 := by rw [hp 3 h3]; rfl
  have hpl : w (zmc g (b / 20)) 0 = 1 := by rw [hp _ hl, if_neg hne]
  have hpk : w (zmc g (c / 20)) 0 = 1 := by rw [hp _ hk, if_neg hnc]
  have hi1 := zlevin hG hb
  have hi2 := zlevin hG hc
  rw [(geo7 b hb).1] at hi1
  rw [(geo7 c hc).1] at hi2
  unfold f_X6_moveToOtherLevel
  simp only [zlev' hG hb, zlev' hG hc, zlift hG, zMw_8, m4_start h3, m4_start hl, m4_start hk, m4_goTo h3, m4_goTo hl, m4_goTo hk, m4_work h3, m4_work hl, m4_work hk, m4_handOver hl h3 (Ne.symm hne), m4_handOver h3 hk hnc, m4_finish h3, m4_finish hl, m4_finish hk, zbs, zlet_eq, (geo7 b hb).1, (geo7 b hb).2.1, (geo7 b hb).2.2.1, (geo7 c hc).1, (geo7 c hc).2.1, (geo7 c hc).2.2.1, zwork hb, zwork hc, zg8_2 hG, hp3, hpl, hpk, mset_at, mset_ne hne, mset_ne (Ne.symm hne), mset_ne hnc, mset_ne (Ne.symm hnc), mset_ne hbc, mset_ne (Ne.symm hbc), mset_mset, mset_aca (Ne.symm hne), mset_aca hbc, mset_acda (Ne.symm hne) (Ne.symm hnc), e1, e2, e3, e4, e5, e6, e7, e8, e9, e10, hi1, hi2, if_true]
end ZJB

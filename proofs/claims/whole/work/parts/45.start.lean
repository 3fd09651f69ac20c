/-! THE START: what the law's prefix has made, evaluated. Garages lie at 2, 18, 36 + 16 i (history), 153 + 16 i (orders): sixteen cells each. -/
section ZST
def zS0 : Zs := (0, fun _ => .inl 99, fun _ _ => none, fun _ _ => 0, fun _ _ => 0, true)
def zw0 : Zw := fun _ _ => 0
def zGt (g : Nat) : List (Nat × (Nat ⊕ (Nat × Nat)) × List (Nat × Nat)) :=
  [(g, .inl 1, [(0, g + 1), (1, g + 2), (2, g + 3), (3, g + 4), (4, g + 5), (5, g + 6), (6, g + 7), (7, g + 8)]), (g + 1, .inr (1, 60), []), (g + 2, .inr (0, 60), []), (g + 3, .inr (0, 40), []), (g + 4, .inr (0, 40), []), (g + 5, .inr (0, 40), []), (g + 6, .inr (0, 40), []), (g + 7, .inr (0, 40), []),
   (g + 8, .inl 6, [(0, g + 9), (1, g + 10), (2, g + 11)]), (g + 9, .inr (5, 4), [(0, g + 13), (1, g + 14), (2, g + 15), (3, g + 10)]), (g + 10, .inl 4, []), (g + 11, .inl 3, [(0, g + 12)]), (g + 12, .inr (0, 100), []), (g + 13, .inl 4, []), (g + 14, .inl 4, []), (g + 15, .inl 4, [])]
def zGb : List Nat := [2, 18, 36, 52, 68, 84, 100, 116, 132, 153, 169, 185, 201, 217, 233]
def zTab : List (Nat × (Nat ⊕ (Nat × Nat)) × List (Nat × Nat)) :=
  [(1, .inl 7, [(0, 2), (1, 18), (3, 34), (4, 148), (5, 249), (6, 254)]), (34, .inl 2, [(0, 35)]), (35, .inr (6, 7), [(0, 36), (1, 52), (2, 68), (3, 84), (4, 100), (5, 116), (6, 132)]),
   (148, .inl 5, [(0, 149), (1, 150), (2, 151), (3, 152)]), (149, .inr (6, 6), [(0, 153), (1, 169), (2, 185), (3, 201), (4, 217), (5, 233)]), (150, .inr (0, 5), []), (151, .inr (0, 5), []), (152, .inr (0, 5), []),
   (249, .inl 0, [(0, 250), (1, 251), (2, 252), (3, 253)]), (250, .inr (2, 60), []), (251, .inr (2, 20), []), (252, .inr (0, 20), []), (253, .inr (0, 20), []), (254, .inr (0, 3), []),
   (255, .inl 8, [(1, 256), (2, 257), (3, 258), (4, 259), (5, 260), (13, 261), (14, 262), (15, 263), (21, 264), (22, 265), (23, 266)]), (256, .inr (0, 399), []), (257, .inr (0, 399), []), (258, .inr (0, 399), []), (259, .inr (0, 399), []), (260, .inr (0, 2394), []),
   (261, .inr (0, 5), []), (262, .inr (0, 5), []), (263, .inr (0, 5), []), (264, .inr (0, 60), []), (265, .inr (0, 60), []), (266, .inr (0, 2), []), (267, .inr (3, 1), []), (268, .inr (4, 1), [])] ++ zGb.flatMap zGt
def zLayB (S : Zs) : Bool := decide (S.n = 268) && zTab.all fun r => decide (S.sh r.1 = r.2.1) && r.2.2.all fun q => decide (S.cr r.1 q.1 = some q.2)
def zTyB (S : Zs) (q : Nat ⊕ Nat) (a : Nat) : Bool := match q with
  | .inl c => zckO S a c
  | .inr t => zckT S a t
def zcrB (S : Zs) (id k : Nat) (f : Nat → Bool) : Bool := match S.cr id k with
  | none => false
  | some a => f a
def zwfB (S : Zs) : Bool := (List.range S.n).all fun i => match S.sh (i + 1) with
  | .inl c => (List.range 27).all fun k => match zFk c k with
    | none => true
    | some q => zcrB S (i + 1) k (zTyB S q)
  | .inr (t, n) => (if t = 5 then (List.range n).all (fun j => zcrB S (i + 1) j (fun a => zckO S a 4)) else true) && (if t = 6 then (List.range n).all (fun j => zcrB S (i + 1) j (fun a => zckO S a 1)) else true)
def zat (w : Zw) (id : Nat) (l : List Nat) (v : Int32) : Bool := l.all fun i => decide (w id i = v)
def zWd1 (w : Zw) : Bool := zat w 1 [2, 7] 0 && (zat w 2 [8, 9, 10] 0 && (zat w 3 (List.range 60) 0 && (zat w 4 (List.range 60) (-1) && (zat w 5 (List.range 40) 0 && (zat w 6 (List.range 40) 0 && (zat w 7 (List.range 40) 0 && (zat w 8 (List.range 40) 0 && (zat w 9 (List.range 40) 0 && (zat w 10 [3] 0 && (zat w 12 [1, 2, 3] 0 && (zat w 13 [1, 2, 3] 0 && (zat w 14 (List.range 100) 0 && (zat w 15 [1, 2, 3] 0 && (zat w 16 [1, 2, 3] 0 && (zat w 17 [1, 2, 3] 0 && (zat w 34 [1, 2] 0 && (zat w 249 [4, 5, 6] 0 && zat w 250 (List.range 60) 0)))))))))))))))))
def zWd2 (w : Zw) : Bool := zat w 255 [0, 6, 7, 8, 9, 12, 16, 17, 18, 19, 20, 24, 25, 26] 0 && (zat w 255 [10, 11] (-1) && (zat w 256 (List.range 79) 0 && (zat w 256 ((List.range 60).map (79 + ·)) (-1) && (zat w 256 ((List.range 260).map (139 + ·)) 0 && zat w 265 (List.range 60) 0))))
def zWd3 (w : Zw) : Bool := zGb.all fun g => zat w (g + 13) [0] 1 && (zat w (g + 14) [0] 1 && (zat w (g + 15) [0] 1 && zat w (g + 10) [0] 3))
abbrev zPt : Type := Zs × Zw × Nat × Nat × Nat × Nat
def zret (S : Zs) (w : Zw) (a b c d : Nat) : Option zPt := some (S, w, a, b, c, d)
def zPre : Option zPt := f_pre zS0 zw0 zret
def zFa0 (q : zPt) : Bool := decide (q.2.2 = (1, 255, 267, 268))
set_option maxRecDepth 1000000 in
theorem zP_0 : zPre.any zFa0 = true := by decide +kernel
set_option maxRecDepth 1000000 in
theorem zP_1 : zPre.any (fun q => zLayB q.1) = true := by decide +kernel
set_option maxRecDepth 1000000 in
theorem zP_2 : zPre.any (fun q => zwfB q.1) = true := by decide +kernel
set_option maxRecDepth 1000000 in
theorem zP_3 : zPre.any (fun q => zWd1 q.2.1) = true := by decide +kernel
set_option maxRecDepth 1000000 in
theorem zP_4 : zPre.any (fun q => zWd2 q.2.1) = true := by decide +kernel
set_option maxRecDepth 1000000 in
theorem zP_5 : zPre.any (fun q => zWd3 q.2.1) = true := by decide +kernel
end ZST

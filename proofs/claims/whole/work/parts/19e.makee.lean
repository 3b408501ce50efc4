/-! THE MAKING, run: what comes of it (places printed by wip/whole/gen/ixs.py) -/
def IXl : List (Nat × List Nat) := [(0, [0]), (12, [115]), (13, [116]), (14, [117]), (15, [118]), (16, [119]), (64, [1]), (65, [2]), (128, [3, 11, 128, 140]), (129, [4, 12, 129, 141]), (130, [5, 13, 130, 142]), (131, [6, 14, 131, 143]), (132, [7, 15, 132, 144]), (133, [8, 16, 133, 145]), (134, [9, 17, 134, 146]), (135, [10, 18, 135, 147]), (192, [19]), (256, [20, 24, 28, 49, 53, 57, 61, 65, 69, 75, 79, 83, 87, 91, 95, 99, 103, 107, 111, 136, 148]), (257, [21, 25, 29, 50, 54, 58, 62, 66, 70, 76, 80, 84, 88, 92, 96, 100, 104, 108, 112, 137, 149]), (258, [22, 26, 30, 51, 55, 59, 63, 67, 71, 77, 81, 85, 89, 93, 97, 101, 105, 109, 113, 138, 150]), (259, [23, 27, 31, 52, 56, 60, 64, 68, 72, 78, 82, 86, 90, 94, 98, 102, 106, 110, 114, 139, 151]), (320, [32]), (323, [36]), (324, [37]), (325, [38]), (326, [39]), (327, [40]), (328, [41]), (384, [33]), (385, [34]), (386, [35]), (448, [42]), (452, [43]), (453, [44]), (454, [45]), (512, [46]), (515, [47]), (516, [48]), (576, [73]), (577, [74]), (640, [120, 122, 124, 126]), (641, [121, 123, 125, 127]), (704, [152]), (706, [153]), (707, [154]), (708, [155]), (709, [156]), (721, [157]), (722, [158]), (723, [159]), (724, [160]), (725, [161]), (728, [162]), (737, [163]), (738, [164]), (739, [165]), (742, [166]), (743, [167]), (744, [168])]
def ixL (r : Nat) : List Nat := match IXl.find? (fun e => e.1 == r) with
  | some e => e.2
  | none => []
def ix (r i : Nat) : Nat := (ixL r).getD i 0
/-- what isn't 0 at the start -/
def tb (r : Nat) : List (Nat × Int32) := if r = 128 then [(8, 1)] else if r = 192 then [(3, -1)] else if r = 320 then [(8, -1)] else if r = 640 then [(2, -1)] else if r = 704 then [(14, -1)] else if r = 706 then [(1, 1)] else if r = 742 then [(3, -1), (2, -1), (1, -1), (0, -1)] else []
def exC (r i : Nat) : NC := if r % 64 = 0 then Sum.inl (r / 64, (List.range (nF r)).map (fun j => match fK r j with
    | 0 => vI (lkp (tb r) j)
    | 1 => vI (lkp (tb r) j)
    | 2 => vL 0
    | 3 => vR 0 (ix (oR r j).1 (oR r j).2)
    | _ => vR 0 (ix (r + 1 + j) i)))
  else if (aK r).1 < 4 then Sum.inr (Sum.inl ((aK r).1, (aK r).2, tb r)) else Sum.inr (Sum.inr ((aK r).1, (aK r).2, (List.range (aK r).2).map (fun k => some (ix (eR r).1 ((eR r).2 + k)))))
def eqC (a b : NC) : Bool := match a, b with
  | Sum.inl (t, f), Sum.inl (t', f') => decide (t = t') && decide (f = f')
  | Sum.inr (Sum.inl (t, n, u)), Sum.inr (Sum.inl (t', n', u')) => decide (t = t') && decide (n = n') && decide (u = u')
  | Sum.inr (Sum.inr (t, n, u)), Sum.inr (Sum.inr (t', n', u')) => decide (t = t') && decide (n = n') && decide (u = u')
  | _, _ => false
theorem eqC_ok {a b : NC} (h : eqC a b = true) : a = b := by
  unfold eqC at h
  split at h
  · simp only [Bool.and_eq_true, decide_eq_true_eq] at h
    rw [h.1, h.2]
  · simp only [Bool.and_eq_true, decide_eq_true_eq] at h
    rw [h.1.1, h.1.2, h.2]
  · simp only [Bool.and_eq_true, decide_eq_true_eq] at h
    rw [h.1.1, h.1.2, h.2]
  · cases h
def chB (b : List NC) : Bool := decide (b.length = 169) && CE.all (fun q => match b[ix q.1 q.2]? with
  | some c => eqC c (exC q.1 q.2)
  | none => false)
theorem mk_ck : (match nD 4 0 [vR 0 0] [Sum.inl (0, dF 0)] with
  | some a => decide (a.length = 152) && (match nD 4 11 [vR 0 152] (a ++ [Sum.inl (11, dF 11)]) with
    | some b => chB b
    | none => false)
  | none => false) = true := by decide +kernel

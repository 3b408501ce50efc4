/-! a law's steps, told: the plain stack machine, and Law.tell is it -/
def clL (v : Int64) : Int32 := (mxL (-1000000) (mnL 1000000 v)).toInt32
theorem cmp_cases (x y : Int64) : (x.toInt < y.toInt ∧ lg_cmp x y = -1) ∨ (x = y ∧ lg_cmp x y = 0) ∨ (y.toInt < x.toInt ∧ lg_cmp x y = 1) := by
  unfold lg_cmp
  by_cases h : x > y
  · rw [if_pos h]
    exact Or.inr (Or.inr ⟨Int64.lt_iff_toInt_lt.mp h, rfl⟩)
  · rw [if_neg h]
    by_cases e : x = y
    · rw [if_pos e]; exact Or.inr (Or.inl ⟨e, rfl⟩)
    · rw [if_neg e]
      refine Or.inl ⟨?_, rfl⟩
      have h1 := Int64.le_iff_toInt_le.mp (Int64.not_lt.mp h)
      have h2 : x.toInt ≠ y.toInt := fun q => e (Int64.toInt_inj.mp q)
      omega
theorem mnL_e (v : Int64) : mnL 1000000 v = if lg_cmp v 1000000 ≤ 0 then v else 1000000 := by
  unfold mnL
  rcases cmp_cases v 1000000 with ⟨h, e⟩ | ⟨h, e⟩ | ⟨h, e⟩
  · rcases cmp_cases 1000000 v with ⟨h', e'⟩ | ⟨h', e'⟩ | ⟨h', e'⟩
    · omega
    · rw [← h'] at h; omega
    · rw [e, e', if_pos (by decide), if_pos (by decide)]
  · subst h; decide
  · rcases cmp_cases 1000000 v with ⟨h', e'⟩ | ⟨h', e'⟩ | ⟨h', e'⟩
    · rw [e, e', if_neg (by decide), if_neg (by decide)]
    · rw [← h'] at h; omega
    · omega
theorem mxL_e (v : Int64) : mxL (-1000000) v = if 0 ≤ lg_cmp v (-1000000) then v else -1000000 := by
  unfold mxL
  rcases cmp_cases v (-1000000) with ⟨h, e⟩ | ⟨h, e⟩ | ⟨h, e⟩
  · rcases cmp_cases (-1000000) v with ⟨h', e'⟩ | ⟨h', e'⟩ | ⟨h', e'⟩
    · omega
    · rw [← h'] at h; omega
    · rw [e, e', if_neg (by decide), if_neg (by decide)]
  · subst h; decide
  · rcases cmp_cases (-1000000) v with ⟨h', e'⟩ | ⟨h', e'⟩ | ⟨h', e'⟩
    · rw [e, e', if_pos (by decide), if_pos (by decide)]
    · rw [← h'] at h; omega
    · omega
theorem cl_k {v : Int64} {X : Int32 → Prop} (h : X (clL v)) : (lg_cmp v 1000000 ≤ 0 → (0 ≤ lg_cmp v (-1000000) → X v.toInt32) ∧ (¬ (0 ≤ lg_cmp v (-1000000)) → X (-1000000))) ∧ (¬ (lg_cmp v 1000000 ≤ 0) → X 1000000) := by
  unfold clL at h
  rw [mnL_e] at h
  refine ⟨fun p => ?_, fun p => ?_⟩
  · rw [if_pos p, mxL_e] at h
    refine ⟨fun q => ?_, fun q => ?_⟩
    · rw [if_pos q] at h; exact h
    · rw [if_neg q] at h
      have e : (-1000000 : Int64).toInt32 = (-1000000 : Int32) := by decide
      rw [e] at h; exact h
  · rw [if_neg p] at h
    have e : (mxL (-1000000) 1000000).toInt32 = 1000000 := by decide
    rw [e] at h; exact h
def of2 (o : Nat) (l r : Int32) : Int32 := match o with
  | 2 => clL (l + r).toInt64
  | 3 => clL (l - r).toInt64
  | 4 => clL (l.toInt64 * r.toInt64)
  | 5 => if l = r then 1 else 0
  | 6 => if l < r then 1 else 0
  | 7 => if r < l then 1 else 0
  | 8 => l &&& r
  | 9 => l ||| r
  | _ => 0
/-- place and stack behind one step (what is below 2 and above 9: numbers, names, not, jumps) -/
def lst (nm : Nat → Int32) (o a : Nat) (at' : Nat) (stk : List Int32) : Nat × List Int32 := match o, stk with
  | 0, s => (at' + 1, nI a :: s)
  | 1, s => (at' + 1, nm a :: s)
  | 10, x :: s => (at' + 1, (1 - x) :: s)
  | 11, x :: s => (if x = 0 then max (at' + 1) a else at' + 1, s)
  | 12, s => (max (at' + 1) a, s)
  | o, r :: l :: s => (at' + 1, of2 o l r :: s)
  | _, s => (at' + 1, s)
/-- what a step needs: its operands; a name's number -/
def lok (o a : Nat) (stk : List Int32) : Prop := a < 1000 ∧ (o = 0 ∨ (o = 1 ∧ a < 5) ∨ (o = 10 ∧ 1 ≤ stk.length) ∨ (o = 11 ∧ 1 ≤ stk.length) ∨ o = 12 ∨ (2 ≤ o ∧ o ≤ 9 ∧ 2 ≤ stk.length))
/-- n steps, all ahead of place E, the stack never above k -/
def lgo (c : Nat → Int32) (nm : Nat → Int32) (E k : Nat) : Nat → Nat → List Int32 → Nat → List Int32 → Prop
  | 0, p, s, p', s' => p = p' ∧ s = s'
  | n + 1, p, s, p', s' => p < E ∧ ∃ o a, c p = nI (16 * a + o) ∧ lok o a s ∧ (lst nm o a p s).2.length ≤ k ∧ lgo c nm E k n (lst nm o a p s).1 (lst nm o a p s).2 p' s'
theorem lgo_app {c nm : Nat → Int32} {E k : Nat} : ∀ {n1 n2 p1 p2 p3 : Nat} {s1 s2 s3 : List Int32}, lgo c nm E k n1 p1 s1 p2 s2 → lgo c nm E k n2 p2 s2 p3 s3 → lgo c nm E k (n1 + n2) p1 s1 p3 s3 := by
  intro n1
  induction n1 with
  | zero =>
    intro n2 p1 p2 p3 s1 s2 s3 h1 h2
    obtain ⟨rfl, rfl⟩ := h1
    rw [Nat.zero_add]
    exact h2
  | succ n ih =>
    intro n2 p1 p2 p3 s1 s2 s3 h1 h2
    rw [Nat.succ_add]
    obtain ⟨a1, o, a, a2, a3, a4, a5⟩ := h1
    exact ⟨a1, o, a, a2, a3, a4, ih a5 h2⟩
theorem lgo_mono {c c' nm : Nat → Int32} {E E' k k' : Nat} (hE : E ≤ E') (hk : k ≤ k') (hc : ∀ p, p < E → c' p = c p) : ∀ {n p1 p2 : Nat} {s1 s2 : List Int32}, lgo c nm E k n p1 s1 p2 s2 → lgo c' nm E' k' n p1 s1 p2 s2 := by
  intro n
  induction n with
  | zero => intro p1 p2 s1 s2 h; exact h
  | succ n ih =>
    intro p1 p2 s1 s2 h
    obtain ⟨a1, o, a, a2, a3, a4, a5⟩ := h
    exact ⟨by omega, o, a, by rw [hc p1 a1]; exact a2, a3, by omega, ih a5⟩
def stkA (f : Nat → Int32) : List Int32 → Prop
  | [] => True
  | x :: r => f r.length = x ∧ stkA f r
theorem stkA_keep {f g : Nat → Int32} : ∀ {s : List Int32}, (∀ k, k < s.length → g k = f k) → stkA f s → stkA g s
  | [], _, _ => trivial
  | x :: r, h, hs => ⟨by rw [h r.length (by simp)]; exact hs.1, stkA_keep (fun k hk => h k (by simp; omega)) hs.2⟩
def StkA (I : MI) (s : List Int32) : Prop := I 384 0 2 = nI s.length ∧ stkA (I 386 0) s
def lawS : Nat → Nat → Prop := fun r a => (r = 384 ∨ r = 386) ∧ a = 0
section Law
variable {d i : Nat} {I : MI} {L : ML}
theorem c_Law_push {x : Int32} {s : List Int32} {K : MI → ML → Prop} (hd : 1 ≤ d) (hs : StkA I s) (hl : s.length < 64) (h : ∀ I', StkA I' (x :: s) → Same lawS I I' → K I' L) : CV d m_Law_push [vR 384 0, vI x] I L K := by
  refine toCV (n := 0) hd (r_Law_push_0 ?_)
  rw [hs.1]
  refine ⟨fun q => absurd q (nlt0 (by omega)), fun _ => ⟨fun q => absurd q (nle_c (m := 64) hl (by omega)), fun _ => ⟨vin hl (by omega), rfl, ?_⟩⟩⟩
  rw [cl_n (by omega)]
  refine h _ ⟨?_, ?_⟩ ((Same.rf.ui ⟨Or.inr rfl, rfl⟩).ui ⟨Or.inl rfl, rfl⟩)
  · rw [ui_s, ui_r (by decide), hs.1, nI_1]; rfl
  · rw [ui_off (by simp)]
    refine ⟨by rw [ui_s], stkA_keep (fun k hk => ?_) hs.2⟩
    rw [ui_k (by omega)]
theorem c_Law_pop {x : Int32} {s : List Int32} {K : Int32 → MI → ML → Prop} (hd : 1 ≤ d) (hs : StkA I (x :: s)) (hl : s.length < 64) (h : ∀ I', StkA I' s → Same lawS I I' → K x I' L) : CI d m_Law_pop [vR 384 0] I L K := by
  refine toCI (n := 0) hd (r_Law_pop_0 ?_)
  have e1 : I 384 0 2 = nI (s.length + 1) := hs.1
  rw [e1]
  have e2 : nI (s.length + 1) - (1 : Int32) = nI s.length := nI_pred _
  refine ⟨fun q => absurd q (nI_nle (by omega) (by omega)), fun _ => ⟨fun _ => ?_, fun q => absurd (nI_le (show s.length + 1 ≤ 64 by omega) (by omega)) q⟩⟩
  rw [e2, ui_s]
  refine ⟨vin (by omega) (by omega), _, rfl, ?_⟩
  rw [cl_n (by omega), ui_r (by decide), hs.2.1]
  refine h _ ⟨ui_s, ?_⟩ (Same.rf.ui ⟨Or.inl rfl, rfl⟩)
  rw [ui_off (by simp)]
  exact hs.2.2
theorem c_Law_ofTwo {o : Nat} {l r : Int32} {K : Int32 → MI → ML → Prop} (hd : 2 ≤ d) (h2 : 2 ≤ o) (h9 : o ≤ 9) (h : K (of2 o l r) I L) : CI d m_Law_ofTwo [vI (nI o), vI l, vI r] I L K := by
  refine toCI (n := 1) hd (r_Law_ofTwo_0 ?_)
  have ne : ∀ k, k < 20 → o ≠ k → ¬ nI o = nI k := fun k hk hn e => hn ((nI_eq (by omega) (by omega)).mp e)
  refine ⟨fun e => ?_, fun e => ?_, fun e => ?_, fun e => ?_, fun e => ?_, fun e => ⟨fun e4 => ?_, fun n4 => ⟨fun n2 => ?_, fun e2 => ?_⟩⟩⟩
  · have e := (nI_eq (b := 5) (by omega) (by omega)).mp e
    subst e
    refine ⟨fun q => ⟨_, rfl, ?_⟩, fun q => ⟨_, rfl, ?_⟩⟩
    · simp only [of2] at h; rw [if_neg q] at h; exact h
    · simp only [of2] at h; rw [if_pos (Classical.not_not.mp q)] at h; exact h
  · have e := (nI_eq (b := 6) (by omega) (by omega)).mp e
    subst e
    refine ⟨fun q => ⟨_, rfl, ?_⟩, fun q => ⟨_, rfl, ?_⟩⟩
    · simp only [of2] at h; rw [if_neg (Int32.not_lt.mpr q)] at h; exact h
    · simp only [of2] at h; rw [if_pos (Int32.not_le.mp q)] at h; exact h
  · have e := (nI_eq (b := 7) (by omega) (by omega)).mp e
    subst e
    refine ⟨fun q => ⟨_, rfl, ?_⟩, fun q => ⟨_, rfl, ?_⟩⟩
    · simp only [of2] at h; rw [if_neg (Int32.not_lt.mpr q)] at h; exact h
    · simp only [of2] at h; rw [if_pos (Int32.not_le.mp q)] at h; exact h
  · have e := (nI_eq (b := 8) (by omega) (by omega)).mp e
    subst e
    exact ⟨_, rfl, h⟩
  · have e := (nI_eq (b := 9) (by omega) (by omega)).mp e
    subst e
    exact ⟨_, rfl, h⟩
  · have e := (nI_eq (b := 4) (by omega) (by omega)).mp e4
    subst e
    exact cl_k (X := fun z => ∃ x, some (vI z) = some (vI x) ∧ K x I L) ⟨_, rfl, h⟩
  · have hn2 : o ≠ 2 := fun q => n2 (by rw [q]; rfl)
    have hn4 : o ≠ 4 := fun q => n4 (by rw [q]; rfl)
    have hn5 : o ≠ 5 := fun q => e.1 (by rw [q]; rfl)
    have hn6 : o ≠ 6 := fun q => e.2.1 (by rw [q]; rfl)
    have hn7 : o ≠ 7 := fun q => e.2.2.1 (by rw [q]; rfl)
    have hn8 : o ≠ 8 := fun q => e.2.2.2.1 (by rw [q]; rfl)
    have hn9 : o ≠ 9 := fun q => e.2.2.2.2 (by rw [q]; rfl)
    have e3 : o = 3 := by omega
    subst e3
    exact cl_k (X := fun z => ∃ x, some (vI z) = some (vI x) ∧ K x I L) ⟨_, rfl, h⟩
  · have e := (nI_eq (b := 2) (by omega) (by omega)).mp (Classical.not_not.mp e2)
    subst e
    exact cl_k (X := fun z => ∃ x, some (vI z) = some (vI x) ∧ K x I L) ⟨_, rfl, h⟩
theorem dec16 {a o : Nat} (ha : a < 1000) (ho : o < 16) : nI (16 * a + o) % (16 : Int32) = nI o ∧ nI (16 * a + o) / (16 : Int32) = nI a := by
  constructor
  · rw [← irem_eq_mod]
    have := pk_rem (a := 16 * a + o) (d := 16) (by omega) (by omega) (by omega)
    rw [show (16 * a + o) % 16 = o by omega] at this
    exact this
  · have := pk_div (a := 16 * a + o) (d := 16) (by omega) (by omega) (by omega)
    rw [show (16 * a + o) / 16 = a by omega] at this
    exact this
theorem mx_n {a b : Nat} (ha : a < 2 ^ 31) (hb : b < 2 ^ 31) : mx (nI a) (nI b) = nI (max a b) := by
  unfold mx
  by_cases h : a < b
  · rw [if_pos (nI_lt h hb), Nat.max_eq_right (by omega)]
  · rw [if_neg (nI_nlt (by omega) ha), Nat.max_eq_left (by omega)]
theorem c_Law_tell {c nm : Nat → Int32} {b e N : Nat} {v : Int32} {K : Int32 → MI → ML → Prop} (hd : 3 ≤ d) (he : e ≤ 900) (hc : ∀ p, p < e → I 135 i p = c p) (hn : ∀ k, k < 5 → I 385 0 k = nm k) (hg : lgo c nm e 64 N b [] e [v]) (hN : N ≤ 900) (hbe : b ≤ e) (h : ∀ I', Same lawS I I' → K v I' L) : CI d m_Law_tell [vR 384 0, vR 128 i, vI (nI b), vI (nI e)] I L K := by
  refine toCI (n := 2) hd (r_Law_tell_0 ?_)
  have key : ∀ (n t p : Nat) (s : List Int32) (I1 : MI), t + n ≤ 900 → p < 2000 → lgo c nm e 64 n p s e [v] → s.length ≤ 64 → StkA I1 s → Same lawS I I1 → XX (2 + 1) m_Law_tell (fun r I' L' => ∃ x, r = some (vI x) ∧ K x I' L') 11 [vR 384 0, vR 128 i, vD, vI (nI e), vI (nI p), vI (nI t), vD, vD, vD] [] I1 L := by
    intro n
    induction n with
    | zero =>
      intro t p s I1 ht hp2 hgo hl hs hS
      obtain ⟨rfl, rfl⟩ := hgo
      have fin : CI 2 m_Law_pop [vR 384 0] I1 L (fun x3 I1 L2 => ∃ x, some (vI x3) = some (vI x) ∧ K x I1 L2) := c_Law_pop (by omega) hs (by simp) (fun I' _ hS' => ⟨_, rfl, h I' (hS.tr hS')⟩)
      exact r_Law_tell_11 ⟨fun _ => fin, fun _ => ⟨fun _ => fin, fun q => absurd (nI_le (Nat.le_refl p) (by omega)) q⟩⟩
    | succ n ih =>
      intro t p s I1 ht hp2 hgo hl hs hS
      obtain ⟨hpe, o, a, hcp, hok, hlen, hrest⟩ := hgo
      refine r_Law_tell_11 ⟨fun q => absurd q (nle_c (m := 900) (by omega) (by omega)), fun _ => ⟨fun q => absurd q (nI_ge hpe (by omega)), fun _ => ?_⟩⟩
      refine c_Road_stepAt (by omega) (by omega) ?_
      have ecode : I1 135 i p = nI (16 * a + o) := by rw [hS 135 i (fun q => by rcases q.1 with z | z <;> exact absurd z (by decide)), hc p hpe]; exact hcp
      rw [ecode]
      obtain ⟨ha, hcase⟩ := hok
      have ho : o < 16 := by omega
      obtain ⟨em, ed⟩ := dec16 ha ho
      rw [em, ed, nI_1, nI_1]
      have ne : ∀ k, k < 20 → o ≠ k → ¬ nI o = nI k := fun k hk hn e => hn ((nI_eq (by omega) (by omega)).mp e)
      have eqo : ∀ k, k < 20 → nI o = nI k → o = k := fun k hk e => (nI_eq (by omega) (by omega)).mp e
      have two : 2 ≤ o → o ≤ 9 → CI 2 m_Law_pop [vR 384 0] I1 L (fun x22 I20 L21 => CI 2 m_Law_pop [vR 384 0] I20 L21 (fun x25 I23 L24 => CI 2 m_Law_ofTwo [vI (nI o), vI x25, vI x22] I23 L24 (fun x28 I26 L27 => CV 2 m_Law_push [vR 384 0, vI x28] I26 L27 (fun I29 L30 => XX (2 + 1) m_Law_tell (fun r I' L' => ∃ x, r = some (vI x) ∧ K x I' L') 11 [vR 384 0, vR 128 i, vD, vI (nI e), vI (nI (p + 1)), vI (nI (t + 1)), vD, vD, vD] [] I29 L30)))) := by
        intro q2 q9
        have hl2 : 2 ≤ s.length := by omega
        obtain ⟨r, l, s', rfl⟩ : ∃ r l s', s = r :: l :: s' := by
          rcases s with _ | ⟨r, _ | ⟨l, s'⟩⟩
          · simp at hl2
          · simp at hl2
          · exact ⟨r, l, s', rfl⟩
        have elst : lst nm o a p (r :: l :: s') = (p + 1, of2 o l r :: s') := by
          have hcs : o = 2 ∨ o = 3 ∨ o = 4 ∨ o = 5 ∨ o = 6 ∨ o = 7 ∨ o = 8 ∨ o = 9 := by omega
          rcases hcs with rfl | rfl | rfl | rfl | rfl | rfl | rfl | rfl <;> rfl
        rw [elst] at hrest hlen
        simp only [List.length_cons] at hlen hl
        refine c_Law_pop (s := l :: s') (by omega) hs (by simp; omega) (fun J1 hs1 z1 => ?_)
        refine c_Law_pop (s := s') (by omega) hs1 (by omega) (fun J2 hs2 z2 => ?_)
        refine c_Law_ofTwo (by omega) q2 q9 ?_
        refine c_Law_push (by omega) hs2 (by omega) (fun J3 hs3 z3 => ?_)
        exact ih (t + 1) (p + 1) _ J3 (by omega) (by omega) hrest (by simp; omega) hs3 (((hS.tr z1).tr z2).tr z3)
      refine ⟨fun q => ?_, fun q => ?_, fun q => two (by have := eqo 2 (by omega) q; omega) (by have := eqo 2 (by omega) q; omega), fun q => two (by have := eqo 3 (by omega) q; omega) (by have := eqo 3 (by omega) q; omega), fun q => two (by have := eqo 4 (by omega) q; omega) (by have := eqo 4 (by omega) q; omega), fun q => two (by have := eqo 5 (by omega) q; omega) (by have := eqo 5 (by omega) q; omega), fun q => two (by have := eqo 6 (by omega) q; omega) (by have := eqo 6 (by omega) q; omega), fun q => two (by have := eqo 7 (by omega) q; omega) (by have := eqo 7 (by omega) q; omega), fun q => two (by have := eqo 8 (by omega) q; omega) (by have := eqo 8 (by omega) q; omega), fun q => two (by have := eqo 9 (by omega) q; omega) (by have := eqo 9 (by omega) q; omega), fun q => ?_, fun q => ?_, fun q => ?_, fun q => ?_⟩
      · have e0 := eqo 0 (by omega) q
        subst e0
        have hrest : lgo c nm e 64 n (p + 1) (nI a :: s) e [v] := hrest
        have hlen : (nI a :: s).length ≤ 64 := hlen
        simp only [List.length_cons] at hlen
        exact c_Law_push (by omega) hs (by omega) (fun J1 hs1 z1 => ih (t + 1) (p + 1) _ J1 (by omega) (by omega) hrest (by simp; omega) hs1 (hS.tr z1))
      · have e0 := eqo 1 (by omega) q
        subst e0
        have ha5 : a < 5 := by omega
        have hrest : lgo c nm e 64 n (p + 1) (nm a :: s) e [v] := hrest
        have hlen : (nm a :: s).length ≤ 64 := hlen
        simp only [List.length_cons] at hlen
        have enm : I1 385 0 a = nm a := by rw [hS 385 0 (fun q => by rcases q.1 with z | z <;> exact absurd z (by decide))]; exact hn a ha5
        refine ⟨fun q => absurd q (nlt0 (by omega)), fun _ => ⟨fun q => absurd q (nle_c (m := 5) ha5 (by omega)), fun _ => ⟨vin ha5 (by omega), ?_⟩⟩⟩
        rw [cl_n (by omega), enm]
        exact c_Law_push (by omega) hs (by omega) (fun J1 hs1 z1 => ih (t + 1) (p + 1) _ J1 (by omega) (by omega) hrest (by simp; omega) hs1 (hS.tr z1))
      · have e0 := eqo 10 (by omega) q
        subst e0
        obtain ⟨x, s', rfl⟩ : ∃ x s', s = x :: s' := by
          rcases s with _ | ⟨x, s'⟩
          · simp at hcase
          · exact ⟨x, s', rfl⟩
        have hrest : lgo c nm e 64 n (p + 1) ((1 - x) :: s') e [v] := hrest
        simp only [List.length_cons] at hl
        refine c_Law_pop (by omega) hs (by omega) (fun J1 hs1 z1 => ?_)
        exact c_Law_push (by omega) hs1 (by omega) (fun J2 hs2 z2 => ih (t + 1) (p + 1) _ J2 (by omega) (by omega) hrest (by simp; omega) hs2 ((hS.tr z1).tr z2))
      · have e0 := eqo 11 (by omega) q
        subst e0
        obtain ⟨x, s', rfl⟩ : ∃ x s', s = x :: s' := by
          rcases s with _ | ⟨x, s'⟩
          · simp at hcase
          · exact ⟨x, s', rfl⟩
        have hrest : lgo c nm e 64 n (if x = 0 then max (p + 1) a else p + 1) s' e [v] := hrest
        simp only [List.length_cons] at hl
        refine c_Law_pop (by omega) hs (by omega) (fun J1 hs1 z1 => ⟨fun q => ?_, fun q => ?_⟩)
        · rw [if_neg q] at hrest
          exact ih (t + 1) (p + 1) _ J1 (by omega) (by omega) hrest (by omega) hs1 (hS.tr z1)
        · rw [if_pos (Classical.not_not.mp q)] at hrest
          refine c_max (by omega) ?_
          rw [mx_n (by omega) (by omega)]
          exact ih (t + 1) (max (p + 1) a) _ J1 (by omega) (by omega) hrest (by omega) hs1 (hS.tr z1)
      · have e0 := eqo 12 (by omega) q
        subst e0
        have hrest : lgo c nm e 64 n (max (p + 1) a) s e [v] := hrest
        refine c_max (by omega) ?_
        rw [mx_n (by omega) (by omega)]
        exact ih (t + 1) (max (p + 1) a) _ I1 (by omega) (by omega) hrest hl hs hS
      · exfalso
        obtain ⟨n0, n1, n2, n3, n4, n5, n6, n7, n8, n9, n10, n11, n12⟩ := q
        have k0 : o ≠ 0 := fun z => n0 (by rw [z]; rfl)
        have k1 : o ≠ 1 := fun z => n1 (by rw [z]; rfl)
        have k2 : o ≠ 2 := fun z => n2 (by rw [z]; rfl)
        have k3 : o ≠ 3 := fun z => n3 (by rw [z]; rfl)
        have k4 : o ≠ 4 := fun z => n4 (by rw [z]; rfl)
        have k5 : o ≠ 5 := fun z => n5 (by rw [z]; rfl)
        have k6 : o ≠ 6 := fun z => n6 (by rw [z]; rfl)
        have k7 : o ≠ 7 := fun z => n7 (by rw [z]; rfl)
        have k8 : o ≠ 8 := fun z => n8 (by rw [z]; rfl)
        have k9 : o ≠ 9 := fun z => n9 (by rw [z]; rfl)
        have k10 : o ≠ 10 := fun z => n10 (by rw [z]; rfl)
        have k11 : o ≠ 11 := fun z => n11 (by rw [z]; rfl)
        have k12 : o ≠ 12 := fun z => n12 (by rw [z]; rfl)
        omega
  exact key N 0 b [] _ (by omega) (by omega) hg (by simp) ⟨ui_s, trivial⟩ (Same.rf.ui ⟨Or.inl rfl, rfl⟩)
end Law

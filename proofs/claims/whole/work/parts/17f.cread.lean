/-! a law, read by the program: steps laid one behind another -/
theorem lst_up {nm : Nat → Int32} {o a p : Nat} {s : List Int32} : p < (lst nm o a p s).1 := by
  unfold lst
  split
  · exact Nat.lt_succ_self _
  · exact Nat.lt_succ_self _
  · exact Nat.lt_succ_self _
  · show p < (if _ = (0 : Int32) then max (p + 1) a else p + 1)
    split
    · exact Nat.lt_of_lt_of_le (Nat.lt_succ_self p) (Nat.le_max_left _ _)
    · exact Nat.lt_succ_self _
  · exact Nat.lt_of_lt_of_le (Nat.lt_succ_self p) (Nat.le_max_left _ _)
  · exact Nat.lt_succ_self _
  · exact Nat.lt_succ_self _
theorem lgo_seg {c c' nm : Nat → Int32} {b E E' k : Nat} (hE : E ≤ E') (hc : ∀ p, b ≤ p → p < E → c' p = c p) : ∀ {n p1 p2 : Nat} {s1 s2 : List Int32}, b ≤ p1 → lgo c nm E k n p1 s1 p2 s2 → lgo c' nm E' k n p1 s1 p2 s2 := by
  intro n
  induction n with
  | zero => intro p1 p2 s1 s2 _ h; exact h
  | succ n ih =>
    intro p1 p2 s1 s2 hb h
    obtain ⟨a1, o, a, a2, a3, a4, a5⟩ := h
    have := lst_up (nm := nm) (o := o) (a := a) (p := p1) (s := s1)
    exact ⟨by omega, o, a, by rw [hc p1 hb a1]; exact a2, a3, a4, ih (by omega) a5⟩
/-- the steps from b to e lay g upon the stack, W of it free -/
def sgP (c : Nat → Int32) (b e : Nat) (g : DN) (W : Nat) : Prop := b < e ∧ ∀ nm, Bd nm → ∀ s : List Int32, s.length + W ≤ 64 → ∃ N, N ≤ e - b ∧ lgo c nm e 64 N b s e (g nm :: s)
theorem sg_mono {c c' : Nat → Int32} {b e W W' : Nat} {g : DN} (h : sgP c b e g W) (hc : ∀ q, b ≤ q → q < e → c' q = c q) (hW : W ≤ W') : sgP c' b e g W' := by
  refine ⟨h.1, fun nm hb s hs => ?_⟩
  obtain ⟨N, hN, hg⟩ := h.2 nm hb s (by omega)
  exact ⟨N, hN, lgo_seg (Nat.le_refl _) hc (Nat.le_refl _) hg⟩
theorem sg_num {c : Nat → Int32} {b a : Nat} (h : c b = nI (16 * a + 0)) (ha : a < 1000) : sgP c b (b + 1) (fun _ => nI a) 1 := ⟨by omega, fun nm _ s hs => ⟨1, by omega, ⟨by omega, 0, a, h, ⟨ha, Or.inl rfl⟩, by show s.length + 1 ≤ 64; omega, rfl, rfl⟩⟩⟩
theorem sg_nam {c : Nat → Int32} {b a : Nat} (h : c b = nI (16 * a + 1)) (ha : a < 5) : sgP c b (b + 1) (fun nm => nm a) 1 := ⟨by omega, fun nm _ s hs => ⟨1, by omega, ⟨by omega, 1, a, h, ⟨by omega, Or.inr (Or.inl ⟨rfl, ha⟩)⟩, by show s.length + 1 ≤ 64; omega, rfl, rfl⟩⟩⟩
theorem lst_2 {nm : Nat → Int32} {o p : Nat} {l r : Int32} {s : List Int32} (h1 : 2 ≤ o) (h2 : o ≤ 9) : lst nm o 0 p (r :: l :: s) = (p + 1, of2 o l r :: s) := by
  rcases (by omega : o = 2 ∨ o = 3 ∨ o = 4 ∨ o = 5 ∨ o = 6 ∨ o = 7 ∨ o = 8 ∨ o = 9) with rfl | rfl | rfl | rfl | rfl | rfl | rfl | rfl <;> rfl
theorem sg_op {c : Nat → Int32} {b m e o W1 W2 W : Nat} {g1 g2 : DN} (h1 : sgP c b m g1 W1) (h2 : sgP c m e g2 W2) (ho1 : 2 ≤ o) (ho2 : o ≤ 9) (hc : c e = nI o) (hW1 : W1 ≤ W) (hW2 : W2 + 1 ≤ W) : sgP c b (e + 1) (fun nm => of2 o (g1 nm) (g2 nm)) W := by
  have l1 := h1.1
  have l2 := h2.1
  refine ⟨by omega, fun nm hb s hs => ?_⟩
  obtain ⟨N1, a1, k1⟩ := h1.2 nm hb s (by omega)
  obtain ⟨N2, a2, k2⟩ := h2.2 nm hb (g1 nm :: s) (by show s.length + 1 + W2 ≤ 64; omega)
  refine ⟨N1 + N2 + 1, by omega, lgo_app (lgo_app (lgo_seg (b := b) (by omega) (fun _ _ _ => rfl) (by omega) k1) (lgo_seg (b := m) (by omega) (fun _ _ _ => rfl) (by omega) k2)) ⟨by omega, o, 0, by rw [hc, Nat.mul_zero, Nat.zero_add], ⟨by omega, Or.inr (Or.inr (Or.inr (Or.inr (Or.inr ⟨ho1, ho2, by show 2 ≤ s.length + 1 + 1; omega⟩))))⟩, ?_, ?_⟩⟩
  · rw [lst_2 ho1 ho2]; show s.length + 1 ≤ 64; omega
  · rw [lst_2 ho1 ho2]; exact ⟨rfl, rfl⟩
theorem sg_not {c : Nat → Int32} {b e W W' : Nat} {g : DN} (h : sgP c b e g W') (hc : c e = nI 10) (hW : W' ≤ W) (h1 : 1 ≤ W) : sgP c b (e + 1) (fun nm => 1 - g nm) W := by
  have l1 := h.1
  refine ⟨by omega, fun nm hb s hs => ?_⟩
  obtain ⟨N1, a1, k1⟩ := h.2 nm hb s (by omega)
  exact ⟨N1 + 1, by omega, lgo_app (lgo_seg (b := b) (by omega) (fun _ _ _ => rfl) (by omega) k1) ⟨by omega, 10, 0, hc, ⟨by omega, Or.inr (Or.inr (Or.inl ⟨rfl, by show 1 ≤ s.length + 1; omega⟩))⟩, by show s.length + 1 ≤ 64; omega, rfl, rfl⟩⟩
theorem sg_if {c : Nat → Int32} {b u v e W1 W2 W3 W : Nat} {g1 g2 g3 : DN} (h1 : sgP c b u g1 W1) (h2 : sgP c (u + 1) v g2 W2) (h3 : sgP c (v + 1) e g3 W3) (hu : c u = nI (16 * (v + 1) + 11)) (hv : c v = nI (16 * e + 12)) (he : e < 1000) (w1 : W1 ≤ W) (w2 : W2 ≤ W) (w3 : W3 ≤ W) (w0 : 1 ≤ W) : sgP c b e (fun nm => if g1 nm = 0 then g3 nm else g2 nm) W := by
  have l1 := h1.1
  have l2 := h2.1
  have l3 := h3.1
  refine ⟨by omega, fun nm hb s hs => ?_⟩
  obtain ⟨N1, a1, k1⟩ := h1.2 nm hb s (by omega)
  obtain ⟨N2, a2, k2⟩ := h2.2 nm hb s (by omega)
  obtain ⟨N3, a3, k3⟩ := h3.2 nm hb s (by omega)
  have k1 := lgo_seg (c' := c) (E' := e) (b := b) (by omega) (fun _ _ _ => rfl) (by omega) k1
  have k2 := lgo_seg (c' := c) (E' := e) (b := u + 1) (by omega) (fun _ _ _ => rfl) (by omega) k2
  by_cases q : g1 nm = 0
  · refine ⟨N1 + (N3 + 1), by omega, lgo_app k1 ⟨by omega, 11, v + 1, hu, ⟨by omega, Or.inr (Or.inr (Or.inr (Or.inl ⟨rfl, by show 1 ≤ s.length + 1; omega⟩)))⟩, by show s.length ≤ 64; omega, ?_⟩⟩
    show lgo c nm e 64 N3 (if g1 nm = 0 then max (u + 1) (v + 1) else u + 1) s e ((if g1 nm = 0 then g3 nm else g2 nm) :: s)
    rw [if_pos q, if_pos q, Nat.max_eq_right (by omega)]
    exact k3
  · refine ⟨N1 + ((N2 + 1) + 1), by omega, lgo_app k1 ⟨by omega, 11, v + 1, hu, ⟨by omega, Or.inr (Or.inr (Or.inr (Or.inl ⟨rfl, by show 1 ≤ s.length + 1; omega⟩)))⟩, by show s.length ≤ 64; omega, ?_⟩⟩
    show lgo c nm e 64 (N2 + 1) (if g1 nm = 0 then max (u + 1) (v + 1) else u + 1) s e ((if g1 nm = 0 then g3 nm else g2 nm) :: s)
    rw [if_neg q, if_neg q]
    refine lgo_app k2 ⟨by omega, 12, e, hv, ⟨he, Or.inr (Or.inr (Or.inr (Or.inr (Or.inl rfl))))⟩, by show s.length + 1 ≤ 64; omega, ?_⟩
    show max (v + 1) e = e ∧ _ = _
    exact ⟨Nat.max_eq_right (by omega), rfl⟩
/-! what the reading of a law may change -/
def frP (I I' : MI) : Prop := (∀ r a, ¬ (r = 64 ∧ a = 0) → ¬ (r = 192 ∧ a = 0) → ¬ (r = 128 ∧ a = 1) → ¬ (r = 135 ∧ a = 1) → I' r a = I r a) ∧ (∀ j, j < 3 → I' 64 0 j = I 64 0 j) ∧ (∀ j, j ≠ 2 → j ≠ 3 → I' 192 0 j = I 192 0 j) ∧ ∀ j, j ≠ 7 → I' 128 1 j = I 128 1 j
theorem frP.rf {I : MI} : frP I I := ⟨fun _ _ _ _ _ _ => rfl, fun _ _ => rfl, fun _ _ _ => rfl, fun _ _ => rfl⟩
theorem frP.tr {I I' I'' : MI} (h : frP I I') (h' : frP I' I'') : frP I I'' := ⟨fun r a x y z w => (h'.1 r a x y z w).trans (h.1 r a x y z w), fun j x => (h'.2.1 j x).trans (h.2.1 j x), fun j x y => (h'.2.2.1 j x y).trans (h.2.2.1 j x y), fun j x => (h'.2.2.2 j x).trans (h.2.2.2 j x)⟩
theorem frR_P {I I' : MI} (h : frR I I') : frP I I' := ⟨fun r a x y _ _ => h.1 r a x y, h.2.1, h.2.2, fun j _ => by rw [h.1 128 1 (by omega) (by omega)]⟩
theorem frP_7 {I : MI} {e : Nat} {x y : Int32} : frP I (ui (ui I 135 1 e x) 128 1 7 y) := ⟨fun r a _ _ z w => by rw [ui_off z, ui_off w], fun j _ => by rw [ui_r (by decide), ui_r (by decide)], fun j _ _ => by rw [ui_r (by decide), ui_r (by decide)], fun j hj => by rw [ui_k hj, ui_r (by decide)]⟩
theorem frP_c {I : MI} {e : Nat} {x : Int32} : frP I (ui I 135 1 e x) := ⟨fun r a _ _ z w => by rw [ui_off w], fun j _ => by rw [ui_r (by decide)], fun j _ _ => by rw [ui_r (by decide)], fun j hj => by rw [ui_r (by decide)]⟩
theorem i_nn {x : Int32} {n : Nat} (hn : n < 2 ^ 31) (h1 : ¬ x < 0) (h2 : ¬ nI n ≤ x) : ∃ k : Nat, k < n ∧ x = nI k := by
  have h1 := Int32.not_lt.mp h1
  have h2 := Int32.not_le.mp h2
  rw [Int32.le_iff_toInt_le] at h1
  rw [Int32.lt_iff_toInt_lt] at h2
  have e0 : (0 : Int32).toInt = 0 := rfl
  have e1 : (nI n).toInt = n := nI_toInt hn
  obtain ⟨k, hk, e⟩ := rg_nat (x := x) (b := n - 1) ⟨by omega, by omega⟩
  exact ⟨k, by omega, e⟩
section ReadC
variable {d : Nat} {I : MI} {L : ML} {B : Nat → Nat} {n rd : Nat}
theorem c_Tok_isSignA {y : Int32} {K : Int32 → MI → ML → Prop} (hd : 1 ≤ d) (h : ∀ x, K x I L) : CI d m_Tok_isSign [vR 64 0, vI y] I L K := toCI (n := 0) hd (r_Tok_isSign_0 ⟨fun _ => ⟨_, rfl, h _⟩, fun _ => ⟨fun _ => ⟨_, rfl, h _⟩, fun _ => ⟨_, rfl, h _⟩⟩⟩)
theorem Ft_7 {k pl e : Nat} {x y : Int32} (h : FtC I k pl) : FtC (ui (ui I 135 1 e x) 128 1 7 y) k pl := by
  unfold FtC
  rw [ui_off (by omega), ui_off (by omega)]
  exact h
theorem Ft_c {k pl e : Nat} {x : Int32} (h : FtC I k pl) : FtC (ui I 135 1 e x) k pl := by
  unfold FtC
  rw [ui_off (by omega)]
  exact h
theorem c_Road_emitF {k pl : Nat} {a b : Int32} {K : Int32 → MI → ML → Prop} (hd : 1 ≤ d) (hF : FtC I k pl) (h : ∀ x I', FtC I' k pl → frP I I' → K x I' L) : CI d m_Road_emit [vR 128 1, vI a, vI b] I L K := by
  refine toCI (n := 0) hd (r_Road_emit_0 ⟨fun _ => ⟨_, rfl, h _ I hF frP.rf⟩, fun q1 => ⟨fun _ => ⟨_, rfl, h _ I hF frP.rf⟩, fun q2 => ?_⟩⟩)
  obtain ⟨e, he, ee⟩ := i_nn (n := 900) (by omega) q1 q2
  rw [ee]
  exact ⟨vin he (by omega), _, rfl, h _ _ (Ft_7 hF) frP_7⟩
theorem c_Road_aimF {k pl : Nat} {a : Int32} {K : MI → ML → Prop} (hd : 1 ≤ d) (hF : FtC I k pl) (h : ∀ I', FtC I' k pl → frP I I' → K I' L) : CV d m_Road_aimHere [vR 128 1, vI a] I L K := by
  refine toCV (n := 0) hd (r_Road_aimHere_0 ⟨fun _ => ⟨rfl, h I hF frP.rf⟩, fun q1 => ⟨fun _ => ⟨rfl, h I hF frP.rf⟩, fun q2 => ?_⟩⟩)
  obtain ⟨e, he, ee⟩ := i_nn (n := 900) (by omega) q1 q2
  rw [ee]
  exact ⟨vin he (by omega), vin he (by omega), rfl, h _ (Ft_c hF) frP_c⟩
/-! nothing is done behind a fault -/
theorem snd_F {k pl : Nat} {A Z : MI → ML → Prop} (hd : 1 ≤ d) (hF : FtC I k pl) (h : A I L) : CI d m_Rd_isSound [vR 192 0] I L (fun x I' L' => (x = 0 → A I' L') ∧ (¬ x = 0 → Z I' L')) := c_Rd_isSound hd (fun z => absurd z (Ft_ne hF)) (fun _ => ⟨fun _ => h, fun z => absurd rfl z⟩)
theorem c_atomF {k pl : Nat} {x : Int32} {K : MI → ML → Prop} (hd : 2 ≤ d) (hF : FtC I k pl) (h : K I L) : CV d m_Rd_atom [vR 192 0, vI x] I L K := toCV (n := 1) hd (r_Rd_atom_0 (c_Rd_isSound (by omega) (fun z => absurd z (Ft_ne hF)) (fun _ => ⟨fun z => absurd rfl z, fun _ => ⟨rfl, h⟩⟩)))
theorem c_termF {k pl : Nat} {x : Int32} {K : MI → ML → Prop} (hd : 3 ≤ d) (hF : FtC I k pl) (h : K I L) : CV d m_Rd_term [vR 192 0, vI x] I L K := toCV (n := 2) hd (r_Rd_term_0 (c_atomF (by omega) hF (r_Rd_term_7 ⟨fun _ => ⟨rfl, h⟩, fun _ => snd_F (by omega) hF ⟨rfl, h⟩⟩)))
theorem c_sumF {k pl : Nat} {x : Int32} {K : MI → ML → Prop} (hd : 4 ≤ d) (hF : FtC I k pl) (h : K I L) : CV d m_Rd_sum [vR 192 0, vI x] I L K := toCV (n := 3) hd (r_Rd_sum_0 (c_termF (by omega) hF (r_Rd_sum_7 ⟨fun _ => ⟨rfl, h⟩, fun _ => snd_F (by omega) hF ⟨rfl, h⟩⟩)))
theorem c_unitF {k pl : Nat} {x : Int32} {K : MI → ML → Prop} (hd : 2 ≤ d) (hF : FtC I k pl) (h : K I L) : CV d m_Rd_unit [vR 192 0, vI x] I L K := toCV (n := 1) hd (r_Rd_unit_0 (c_Rd_isSound (by omega) (fun z => absurd z (Ft_ne hF)) (fun _ => ⟨fun z => absurd rfl z, fun _ => ⟨rfl, h⟩⟩)))
theorem c_bothF {k pl : Nat} {x : Int32} {K : MI → ML → Prop} (hd : 3 ≤ d) (hF : FtC I k pl) (h : K I L) : CV d m_Rd_both [vR 192 0, vI x] I L K := toCV (n := 2) hd (r_Rd_both_0 (c_unitF (by omega) hF (r_Rd_both_7 ⟨fun _ => ⟨rfl, h⟩, fun _ => snd_F (by omega) hF ⟨rfl, h⟩⟩)))
theorem c_truthF {k pl : Nat} {x : Int32} {K : MI → ML → Prop} (hd : 4 ≤ d) (hF : FtC I k pl) (h : K I L) : CV d m_Rd_truth [vR 192 0, vI x] I L K := toCV (n := 3) hd (r_Rd_truth_0 (c_bothF (by omega) hF (r_Rd_truth_7 ⟨fun _ => ⟨rfl, h⟩, fun _ => snd_F (by omega) hF ⟨rfl, h⟩⟩)))
/-! a name -/
theorem nmW_n {k : Nat} (h : k ≠ 14 ∧ k ≠ 15 ∧ k ≠ 2 ∧ k ≠ 16 ∧ k ≠ 17 ∧ k ≠ 5) : nmW rd k = none := by
  unfold nmW
  rw [if_neg h.1, if_neg h.2.1, if_neg h.2.2.1, if_neg (fun y => h.2.2.2.1 y.1), if_neg (fun y => h.2.2.2.2.1 y.1), if_neg (fun y => h.2.2.2.2.2 y.1)]
theorem nmW_2 {k : Nat} {q : Nat × Nat} (hq : nmW rd k = some q) : q.2 ≤ 4 ∧ k ≤ 20 := by
  unfold nmW at hq
  split at hq
  · injection hq with hq; subst hq; exact ⟨by show 0 ≤ 4; omega, by omega⟩
  split at hq
  · injection hq with hq; subst hq; exact ⟨by show 1 ≤ 4; omega, by omega⟩
  split at hq
  · injection hq with hq; subst hq; exact ⟨by show 2 ≤ 4; omega, by omega⟩
  split at hq
  · injection hq with hq; subst hq; exact ⟨by show 3 ≤ 4; omega, by omega⟩
  split at hq
  · injection hq with hq; subst hq; exact ⟨by show 3 ≤ 4; omega, by omega⟩
  split at hq
  · injection hq with hq; subst hq; exact ⟨by show 4 ≤ 4; omega, by omega⟩
  · exact absurd hq (by simp)
theorem c_Rd_nameSlot {p : Nat} {K : Int32 → MI → ML → Prop} (hd : 6 ≤ d) (hP : PsC I B n p) (h4 : I 192 0 4 = nI rd) (hr : rd ≤ 1) (h1 : ∀ q, nmW rd (tkn B n p).1 = some q → K (nI q.2) I L) (h0 : nmW rd (tkn B n p).1 = none → K (-1) I L) : CI d m_Rd_nameSlot [vR 192 0] I L K := by
  obtain ⟨hT, hC, hp, _⟩ := hP
  generalize hk : (tkn B n p).1 = k at *
  refine toCI (n := 5) hd (r_Rd_nameSlot_0 (c_Tok_isWord (j := 14) (by omega) hT hC hp (by omega) (fun e => ⟨fun z => absurd z (by decide), fun _ => ⟨_, rfl, h1 (0, 0) ?_⟩⟩) (fun e1 => ⟨fun _ => c_Tok_isWord (j := 15) (by omega) hT hC hp (by omega) (fun e => ⟨fun z => absurd z (by decide), fun _ => ⟨_, rfl, h1 (1, 1) ?_⟩⟩) (fun e2 => ⟨fun _ => c_Tok_isWord (j := 2) (by omega) hT hC hp (by omega) (fun e => ⟨fun z => absurd z (by decide), fun _ => ⟨_, rfl, h1 (2, 2) ?_⟩⟩) (fun e3 => ⟨fun _ => ?_, fun z => absurd rfl z⟩), fun z => absurd rfl z⟩), fun z => absurd rfl z⟩)))
  · unfold nmW; rw [if_pos (by omega)]
  · unfold nmW; rw [if_neg (by omega), if_pos (by omega)]
  · unfold nmW; rw [if_neg (by omega), if_neg (by omega), if_pos (by omega)]
  · rw [hk] at e1 e2 e3
    rw [h4]
    have z4 : rd ≠ 0 → ¬ nI rd = 0 := fun z => nI_ne0 (by omega) (by omega)
    refine ⟨fun q => c_Tok_isWord (j := 16) (by omega) hT hC hp (by omega) (fun e => ⟨fun z => absurd z (by decide), fun _ => ⟨_, rfl, h1 (3, 3) ?_⟩⟩) (fun e => ⟨fun _ => ?_, fun z => absurd rfl z⟩), fun q => c_Tok_isWord (j := 17) (by omega) hT hC hp (by omega) (fun e => ⟨fun z => absurd z (by decide), fun _ => ⟨_, rfl, h1 (4, 3) ?_⟩⟩) (fun e => ⟨fun _ => ?_, fun z => absurd rfl z⟩)⟩
    · have : rd = 0 := Classical.byContradiction (fun z => z4 z q)
      unfold nmW; rw [if_neg e1, if_neg e2, if_neg e3, if_pos ⟨by omega, this⟩]
    · have : rd = 0 := Classical.byContradiction (fun z => z4 z q)
      rw [h4]
      refine ⟨fun _ => ⟨_, rfl, h0 ?_⟩, fun z => absurd q z⟩
      unfold nmW; rw [if_neg e1, if_neg e2, if_neg e3, if_neg (by omega), if_neg (by omega), if_neg (by omega)]
    · have : rd = 1 := by
        rcases (by omega : rd = 0 ∨ rd = 1) with z | z
        · exact absurd (by rw [z]; rfl) q
        · exact z
      unfold nmW; rw [if_neg e1, if_neg e2, if_neg e3, if_neg (by omega), if_pos ⟨by omega, this⟩]
    · have : rd = 1 := by
        rcases (by omega : rd = 0 ∨ rd = 1) with z | z
        · exact absurd (by rw [z]; rfl) q
        · exact z
      rw [h4]
      refine ⟨fun z => absurd z q, fun _ => c_Tok_isWord (j := 5) (by omega) hT hC hp (by omega) (fun e5 => ⟨fun z => absurd z (by decide), fun _ => ⟨_, rfl, h1 (5, 4) ?_⟩⟩) (fun e5 => ⟨fun _ => ⟨_, rfl, h0 ?_⟩, fun z => absurd rfl z⟩)⟩
      · unfold nmW; rw [if_neg e1, if_neg e2, if_neg e3, if_neg (by omega), if_neg (by omega), if_pos ⟨by omega, this⟩]
      · unfold nmW; rw [if_neg e1, if_neg e2, if_neg e3, if_neg (by omega), if_neg (by omega), if_neg (by omega)]
end ReadC

/-! images -/
theorem lawM_c2 {f f' : Nat → Int32} {j : Nat} {o : Option DN} (hj : j < 2) (h : lawM f j o) (e : ∀ j, j < 1184 → f' j = f j) : lawM f' j o := by
  cases o with
  | none => show f' (4 + j) = 0; rw [e _ (by omega)]; exact h
  | some g =>
    obtain ⟨h1, b, cs, h6, h8, hl, hc, hg⟩ := h
    exact ⟨by rw [e _ (by omega)]; exact h1, b, cs, by rw [e _ (by omega)]; exact h6, by rw [e _ (by omega)]; exact h8, hl, fun q hq => by rw [e _ (by omega)]; exact hc q hq, hg⟩
theorem MRo_c2 {f f' : Nat → Int32} {R : RD} (hR : WF R) (h : MRo f R) (e : ∀ j, j < 1184 → f' j = f j) : MRo f' R := by
  have hC := hR.1
  have hW := hR.2.1
  obtain ⟨h1, h2, h3, h4, h5, h6, h7, h8⟩ := h
  refine ⟨by rw [e _ (by omega)]; exact h1, by rw [e _ (by omega)]; exact h2, by rw [e _ (by omega)]; exact h3, by rw [e _ (by omega)]; exact h4, fun c hc => ?_, fun w hw => ?_, lawM_c2 (by omega) h7 e, lawM_c2 (by omega) h8 e⟩
  · rw [e _ (by omega), e _ (by omega)]; exact h5 c hc
  · rw [e _ (by omega), e _ (by omega), e _ (by omega), e _ (by omega)]; exact h6 w hw
def shf (f : Nat → Int32) (i : Nat) : Nat → Int32 := fun j => f (1184 * (i + 1) + j)
abbrev IA : Type := Option (RD × SA)
def ImC (I : MI) (i : Nat) (o : IA) : Prop := match o with
  | none => I 15 0 i = 0
  | some x => I 15 0 i = 1 ∧ RoadA I (2 + i) x.1 ∧ StA I (19 + i) x.2
def ImM (I : MI) (i : Nat) (o : IA) : Prop := match o with
  | none => I 707 0 i = 0
  | some x => I 707 0 i = 1 ∧ MRo (shf (I 706 0) i) x.1 ∧ MSt (shf (I 706 0) i) x.2
def ImO (o : IA) : Prop := match o with
  | none => True
  | some x => WF x.1 ∧ OkS x.1 x.2
theorem lawA_cp {I I' : MI} {i j jb je : Nat} {o : Option DN} (h : lawA I i jb je o) (e1 : I' 128 j jb = I 128 i jb) (e2 : I' 128 j je = I 128 i je) (e3 : ∀ p, p < 900 → I' 135 j p = I 135 i p) : lawA I' j jb je o := by
  cases o with
  | none => show I' 128 j je ≤ I' 128 j jb; rw [e1, e2]; exact h
  | some f =>
    obtain ⟨b, e, hb, he, h1, h2, h3⟩ := h
    refine ⟨b, e, by rw [e1]; exact hb, by rw [e2]; exact he, h1, h2, fun nm hn => ?_⟩
    obtain ⟨N, hN, hg⟩ := h3 nm hn
    exact ⟨N, hN, lgo_mono (Nat.le_refl _) (Nat.le_refl _) (fun p hp => e3 p (by omega)) hg⟩
section Img
variable {d : Nat} {I : MI} {L : ML} {R : RD} {s : SA} {P : List SA}
theorem c_Road_copy {i j : Nat} {K : MI → ML → Prop} (hd : 1 ≤ d) (hij : j ≠ i) (hR : WF R) (hA : RoadA I j R) (h : ∀ I', RoadA I' i R → Same (rdS i) I I' → I' 128 i 9 = I 128 j 9 → K I' L) : CV d m_Road_copy [vR 128 i, vR 128 j] I L K := by
  have hC := hR.1
  have hW := hR.2.1
  have z0 : (0 : Int32).toNatClampNeg = 0 := rfl
  have z6 : (6 : Int32).toNatClampNeg = 6 := rfl
  have z10 : (10 : Int32).toNatClampNeg = 10 := rfl
  have z900 : (900 : Int32).toNatClampNeg = 900 := rfl
  have cp : ∀ (f g : Nat → Int32) (n p : Nat), p < n → va_cpy f g 0 0 n p = f p := fun f g n p hp => by
    rw [pk_cpy_in (by omega) (by omega)]; congr 1; omega
  refine toCV (n := 0) hd (r_Road_copy_0 ?_)
  rw [z0, z6]
  refine r_Road_copy_15 ?_
  rw [z0, z6, ua_off (a := 130) (by omega), ua_off (a := 130) (by omega)]
  refine r_Road_copy_30 ?_
  rw [z0, z10, ua_off (a := 131) (by omega), ua_off (a := 131) (by omega), ua_off (a := 131) (by omega), ua_off (a := 131) (by omega)]
  refine r_Road_copy_45 ?_
  rw [z0, z10]
  simp only [ua_off (show ¬ ((132 : Nat) = 131 ∧ j = i) by omega), ua_off (show ¬ ((132 : Nat) = 131 ∧ i = i) by omega), ua_off (show ¬ ((132 : Nat) = 130 ∧ j = i) by omega), ua_off (show ¬ ((132 : Nat) = 130 ∧ i = i) by omega), ua_off (show ¬ ((132 : Nat) = 129 ∧ j = i) by omega), ua_off (show ¬ ((132 : Nat) = 129 ∧ i = i) by omega)]
  refine r_Road_copy_60 ?_
  rw [z0, z10]
  simp only [ua_off (show ¬ ((133 : Nat) = 132 ∧ j = i) by omega), ua_off (show ¬ ((133 : Nat) = 132 ∧ i = i) by omega), ua_off (show ¬ ((133 : Nat) = 131 ∧ j = i) by omega), ua_off (show ¬ ((133 : Nat) = 131 ∧ i = i) by omega), ua_off (show ¬ ((133 : Nat) = 130 ∧ j = i) by omega), ua_off (show ¬ ((133 : Nat) = 130 ∧ i = i) by omega), ua_off (show ¬ ((133 : Nat) = 129 ∧ j = i) by omega), ua_off (show ¬ ((133 : Nat) = 129 ∧ i = i) by omega)]
  refine r_Road_copy_75 ?_
  rw [z0, z10]
  simp only [ua_off (show ¬ ((134 : Nat) = 133 ∧ j = i) by omega), ua_off (show ¬ ((134 : Nat) = 133 ∧ i = i) by omega), ua_off (show ¬ ((134 : Nat) = 132 ∧ j = i) by omega), ua_off (show ¬ ((134 : Nat) = 132 ∧ i = i) by omega), ua_off (show ¬ ((134 : Nat) = 131 ∧ j = i) by omega), ua_off (show ¬ ((134 : Nat) = 131 ∧ i = i) by omega), ua_off (show ¬ ((134 : Nat) = 130 ∧ j = i) by omega), ua_off (show ¬ ((134 : Nat) = 130 ∧ i = i) by omega), ua_off (show ¬ ((134 : Nat) = 129 ∧ j = i) by omega), ua_off (show ¬ ((134 : Nat) = 129 ∧ i = i) by omega)]
  refine r_Road_copy_90 ?_
  rw [z0, z900]
  simp only [ua_off (show ¬ ((135 : Nat) = 134 ∧ j = i) by omega), ua_off (show ¬ ((135 : Nat) = 134 ∧ i = i) by omega), ua_off (show ¬ ((135 : Nat) = 133 ∧ j = i) by omega), ua_off (show ¬ ((135 : Nat) = 133 ∧ i = i) by omega), ua_off (show ¬ ((135 : Nat) = 132 ∧ j = i) by omega), ua_off (show ¬ ((135 : Nat) = 132 ∧ i = i) by omega), ua_off (show ¬ ((135 : Nat) = 131 ∧ j = i) by omega), ua_off (show ¬ ((135 : Nat) = 131 ∧ i = i) by omega), ua_off (show ¬ ((135 : Nat) = 130 ∧ j = i) by omega), ua_off (show ¬ ((135 : Nat) = 130 ∧ i = i) by omega), ua_off (show ¬ ((135 : Nat) = 129 ∧ j = i) by omega), ua_off (show ¬ ((135 : Nat) = 129 ∧ i = i) by omega)]
  have key : ∀ J : MI, (∀ r b, ¬ (129 ≤ r ∧ r ≤ 135 ∧ b = i) → J r b = I r b) → (∀ p, p < 6 → J 129 i p = I 129 j p) → (∀ p, p < 6 → J 130 i p = I 130 j p) → (∀ p, p < 10 → J 131 i p = I 131 j p) → (∀ p, p < 10 → J 132 i p = I 132 j p) → (∀ p, p < 10 → J 133 i p = I 133 j p) → (∀ p, p < 10 → J 134 i p = I 134 j p) → (∀ p, p < 900 → J 135 i p = I 135 j p) → XX (0 + 1) m_Road_copy (fun r I' L' => r = none ∧ K I' L') 106 [vR 128 i, vR 128 j] [] J L := by
    intro J ho a1 a2 a3 a4 a5 a6 a7
    refine r_Road_copy_106 ?_
    have hn : ¬ ((128 : Nat) = 128 ∧ j = i) := fun z => hij z.2
    simp only [ui_off hn]
    refine ⟨trivial, h _ ?_ ?_ ?_⟩
    · have ej : J 128 j = I 128 j := ho 128 j (by omega)
      obtain ⟨g1, g2, g3, g4, g5, g6, g7, g8⟩ := hA
      refine ⟨?_, ?_, ?_, ?_, fun c hc => ⟨?_, ?_⟩, fun w hw => ⟨?_, ?_, ?_, ?_⟩, lawA_cp g7 ?_ ?_ (fun p hp => ?_), lawA_cp g8 ?_ ?_ (fun p hp => ?_)⟩
      · simp only [ui_k (show (10 : Nat) ≠ 16 by decide), ui_k (show (10 : Nat) ≠ 15 by decide), ui_k (show (10 : Nat) ≠ 14 by decide), ui_k (show (10 : Nat) ≠ 13 by decide), ui_k (show (10 : Nat) ≠ 12 by decide), ui_k (show (10 : Nat) ≠ 11 by decide), ui_s, ej]; exact g1
      · simp only [ui_k (show (11 : Nat) ≠ 16 by decide), ui_k (show (11 : Nat) ≠ 15 by decide), ui_k (show (11 : Nat) ≠ 14 by decide), ui_k (show (11 : Nat) ≠ 13 by decide), ui_k (show (11 : Nat) ≠ 12 by decide), ui_s, ej]; exact g2
      · simp only [ui_k (show (8 : Nat) ≠ 16 by decide), ui_k (show (8 : Nat) ≠ 15 by decide), ui_k (show (8 : Nat) ≠ 14 by decide), ui_k (show (8 : Nat) ≠ 13 by decide), ui_k (show (8 : Nat) ≠ 12 by decide), ui_k (show (8 : Nat) ≠ 11 by decide), ui_k (show (8 : Nat) ≠ 10 by decide), ui_k (show (8 : Nat) ≠ 9 by decide), ui_s, ej]; exact g3
      · simp only [ui_k (show (12 : Nat) ≠ 16 by decide), ui_k (show (12 : Nat) ≠ 15 by decide), ui_k (show (12 : Nat) ≠ 14 by decide), ui_k (show (12 : Nat) ≠ 13 by decide), ui_s, ej]; exact g4
      · simp only [ui_r (show (129 : Nat) ≠ 128 by decide)]; rw [a1 c (by omega)]; exact (g5 c hc).1
      · simp only [ui_r (show (130 : Nat) ≠ 128 by decide)]; rw [a2 c (by omega)]; exact (g5 c hc).2
      · simp only [ui_r (show (131 : Nat) ≠ 128 by decide)]; rw [a3 w (by omega)]; exact (g6 w hw).1
      · simp only [ui_r (show (132 : Nat) ≠ 128 by decide)]; rw [a4 w (by omega)]; exact (g6 w hw).2.1
      · simp only [ui_r (show (133 : Nat) ≠ 128 by decide)]; rw [a5 w (by omega)]; exact (g6 w hw).2.2.1
      · simp only [ui_r (show (134 : Nat) ≠ 128 by decide)]; rw [a6 w (by omega)]; exact (g6 w hw).2.2.2
      · simp only [ui_k (show (13 : Nat) ≠ 16 by decide), ui_k (show (13 : Nat) ≠ 15 by decide), ui_k (show (13 : Nat) ≠ 14 by decide), ui_s, ej]
      · simp only [ui_k (show (14 : Nat) ≠ 16 by decide), ui_k (show (14 : Nat) ≠ 15 by decide), ui_s, ej]
      · simp only [ui_r (show (135 : Nat) ≠ 128 by decide)]; exact a7 p hp
      · simp only [ui_k (show (15 : Nat) ≠ 16 by decide), ui_s, ej]
      · simp only [ui_s, ej]
      · simp only [ui_r (show (135 : Nat) ≠ 128 by decide)]; exact a7 p hp
    · have hS : Same (rdS i) I J := fun r b hq => ho r b (fun z => hq ⟨by omega, z.2.1, z.2.2⟩)
      have u : rdS i 128 i := ⟨by omega, by omega, rfl⟩
      exact (((((((((hS.ui u).ui u).ui u).ui u).ui u).ui u).ui u).ui u).ui u).ui u
    · have ej : J 128 j = I 128 j := ho 128 j (by omega)
      simp only [ui_k (show (9 : Nat) ≠ 16 by decide), ui_k (show (9 : Nat) ≠ 15 by decide), ui_k (show (9 : Nat) ≠ 14 by decide), ui_k (show (9 : Nat) ≠ 13 by decide), ui_k (show (9 : Nat) ≠ 12 by decide), ui_k (show (9 : Nat) ≠ 11 by decide), ui_k (show (9 : Nat) ≠ 10 by decide), ui_s, ej]
  refine key _ (fun r b hq => ?_) (fun p hp => ?_) (fun p hp => ?_) (fun p hp => ?_) (fun p hp => ?_) (fun p hp => ?_) (fun p hp => ?_) (fun p hp => ?_)
  · rw [ua_off (fun z => hq ⟨by omega, by omega, z.2⟩), ua_off (fun z => hq ⟨by omega, by omega, z.2⟩), ua_off (fun z => hq ⟨by omega, by omega, z.2⟩), ua_off (fun z => hq ⟨by omega, by omega, z.2⟩), ua_off (fun z => hq ⟨by omega, by omega, z.2⟩), ua_off (fun z => hq ⟨by omega, by omega, z.2⟩), ua_off (fun z => hq ⟨by omega, by omega, z.2⟩)]
  · rw [ua_off (by omega), ua_off (by omega), ua_off (by omega), ua_off (by omega), ua_off (by omega), ua_off (by omega), ua_on]; exact cp _ _ _ _ hp
  · rw [ua_off (by omega), ua_off (by omega), ua_off (by omega), ua_off (by omega), ua_off (by omega), ua_on]; exact cp _ _ _ _ hp
  · rw [ua_off (by omega), ua_off (by omega), ua_off (by omega), ua_off (by omega), ua_on]; exact cp _ _ _ _ hp
  · rw [ua_off (by omega), ua_off (by omega), ua_off (by omega), ua_on]; exact cp _ _ _ _ hp
  · rw [ua_off (by omega), ua_off (by omega), ua_on]; exact cp _ _ _ _ hp
  · rw [ua_off (by omega), ua_on]; exact cp _ _ _ _ hp
  · rw [ua_on]; exact cp _ _ _ _ hp
end Img

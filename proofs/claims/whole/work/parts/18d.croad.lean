/-! the program reads a text and goes by it -/
/-- the text's bytes -/
def byF (t : Nat → Int32) (N : Nat) : Nat → Nat := fun i => if i < N then (t i).toInt.toNat else 0
theorem byF_e {t : Nat → Int32} {N : Nat} (h : TpO t N) {i : Nat} (hi : i < N) : t i = nI (byF t N i) := by
  obtain ⟨b, hb, e⟩ := h.2 i hi
  unfold byF
  rw [if_pos hi, e, nI_toInt (by omega)]
  rfl
theorem byF_lt {t : Nat → Int32} {N : Nat} (h : TpO t N) (i : Nat) : byF t N i < 256 := by
  unfold byF
  by_cases hi : i < N
  · obtain ⟨b, hb, e⟩ := h.2 i hi
    rw [if_pos hi, e, nI_toInt (by omega)]
    show (b : Int).toNat < 256
    omega
  · rw [if_neg hi]; omega
theorem st0_Ok {R : RD} {u : Nat} (hu : u < 10) : OkS R (st0 (nI u)) := by
  have z : ∀ b : Int, 0 ≤ b → rg (0 : Int32) 0 b := fun b hb => ⟨by decide, by show (0 : Int) ≤ b; exact hb⟩
  exact ⟨⟨fun c hc => ⟨z _ (by omega), z _ (by omega), z _ (by omega)⟩, u, by omega, rfl⟩, fun c _ _ => ⟨rfl, rfl, rfl⟩⟩
def ryC (I0 : MI) (o : LO (Nat × RD)) (I' : MI) : Prop := match o with
  | Sum.inl x => FtC I' x.1 x.2 ∧ frD I0 I'
  | Sum.inr y => y.1 < 10 ∧ rzC I0 y.1 (Sum.inr y.2) I'
section RoadC
variable {d : Nat} {I : MI} {L : ML} {t : Nat → Int32} {n N : Nat}
theorem DrC_8 {J : MI} {R : RD} {mu m v : Nat} (h : DrC J R mu m) : DrC (ui J 128 1 8 (nI v)) (setP R v) mu m := by
  obtain ⟨⟨h10, h11, h8, h12, hcs, hws⟩, hT, hU, h7, h9⟩ := h
  refine ⟨⟨by rw [ui_k (by omega)]; exact h10, by rw [ui_k (by omega)]; exact h11, by rw [ui_s]; rfl, by rw [ui_k (by omega)]; exact h12, fun c hc => ?_, fun w hw => ?_⟩, lawD_k hT (ui_k (by omega)) (ui_k (by omega)) (fun q _ => by rw [ui_r (by decide)]) (Nat.le_refl _), lawD_k hU (ui_k (by omega)) (ui_k (by omega)) (fun q _ => by rw [ui_r (by decide)]) (Nat.le_refl _), by rw [ui_k (by omega)]; exact h7, by rw [ui_k (by omega)]; exact h9⟩
  · rw [ui_off (by omega), ui_off (by omega)]; exact hcs c hc
  · rw [ui_off (by omega), ui_off (by omega), ui_off (by omega), ui_off (by omega)]; exact hws w hw
theorem DrC_9 {J : MI} {R : RD} {mu m v : Nat} (h : DrC J R mu m) : DrC (ui J 128 1 9 (nI v)) R v m := by
  obtain ⟨⟨h10, h11, h8, h12, hcs, hws⟩, hT, hU, h7, h9⟩ := h
  refine ⟨⟨by rw [ui_k (by omega)]; exact h10, by rw [ui_k (by omega)]; exact h11, by rw [ui_k (by omega)]; exact h8, by rw [ui_k (by omega)]; exact h12, fun c hc => ?_, fun w hw => ?_⟩, lawD_k hT (ui_k (by omega)) (ui_k (by omega)) (fun q _ => by rw [ui_r (by decide)]) (Nat.le_refl _), lawD_k hU (ui_k (by omega)) (ui_k (by omega)) (fun q _ => by rw [ui_r (by decide)]) (Nat.le_refl _), by rw [ui_k (by omega)]; exact h7, by rw [ui_s]⟩
  · rw [ui_off (by omega), ui_off (by omega)]; exact hcs c hc
  · rw [ui_off (by omega), ui_off (by omega), ui_off (by omega), ui_off (by omega)]; exact hws w hw
theorem c_Rd_read {K : MI → ML → Prop} (hd : 80 ≤ d) (ht : TpC I t N) (hO : TpO t N) (hn : n ≤ N) (h : ∀ I', ryC I (roadO (byF t N) n) I' → K I' L) : CV d m_Rd_read [vR 192 0, vI (nI n)] I L K := by
  generalize ho : roadO (byF t N) n = o at h
  have hN := hO.1
  refine toCV (n := 79) hd (r_Rd_read_0 (toCV (n := 0) (by omega) (r_Road_clear_0 ⟨rfl, ?_⟩)))
  generalize eC : ui (ui (ui (ui (ui (ui (ui (ui (ui (ui I 128 1 7 0) 128 1 8 1) 128 1 9 0) 128 1 10 0) 128 1 11 0) 128 1 12 0) 128 1 13 0) 128 1 14 0) 128 1 15 0) 128 1 16 0 = C
  have oC : oD I C := by
    rw [← eC]
    exact (((((((((oD.rf.ui (by omega) (by omega)).ui (by omega) (by omega)).ui (by omega) (by omega)).ui (by omega) (by omega)).ui (by omega) (by omega)).ui (by omega) (by omega)).ui (by omega) (by omega)).ui (by omega) (by omega)).ui (by omega) (by omega)).ui (by omega) (by omega)
  have v16 : C 128 1 16 = 0 := by rw [← eC, ui_s]
  have v15 : C 128 1 15 = 0 := by rw [← eC, ui_k (by omega), ui_s]
  have v14 : C 128 1 14 = 0 := by rw [← eC, ui_k (by omega), ui_k (by omega), ui_s]
  have v13 : C 128 1 13 = 0 := by rw [← eC, ui_k (by omega), ui_k (by omega), ui_k (by omega), ui_s]
  have v12 : C 128 1 12 = 0 := by rw [← eC, ui_k (by omega), ui_k (by omega), ui_k (by omega), ui_k (by omega), ui_s]
  have v11 : C 128 1 11 = 0 := by rw [← eC, ui_k (by omega), ui_k (by omega), ui_k (by omega), ui_k (by omega), ui_k (by omega), ui_s]
  have v10 : C 128 1 10 = 0 := by rw [← eC, ui_k (by omega), ui_k (by omega), ui_k (by omega), ui_k (by omega), ui_k (by omega), ui_k (by omega), ui_s]
  have v9 : C 128 1 9 = 0 := by rw [← eC, ui_k (by omega), ui_k (by omega), ui_k (by omega), ui_k (by omega), ui_k (by omega), ui_k (by omega), ui_k (by omega), ui_s]
  have v8 : C 128 1 8 = 1 := by rw [← eC, ui_k (by omega), ui_k (by omega), ui_k (by omega), ui_k (by omega), ui_k (by omega), ui_k (by omega), ui_k (by omega), ui_k (by omega), ui_s]
  have v7 : C 128 1 7 = 0 := by rw [← eC, ui_k (by omega), ui_k (by omega), ui_k (by omega), ui_k (by omega), ui_k (by omega), ui_k (by omega), ui_k (by omega), ui_k (by omega), ui_k (by omega), ui_s]
  clear eC
  have c64 : C 64 0 = I 64 0 := oC 64 0 (fun z => by have := z.1; omega)
  have c65 : C 65 0 = I 65 0 := oC 65 0 (fun z => by have := z.1; omega)
  refine toCV (n := 78) (by omega) (r_Tok_open_0 (c_min (by omega) (c_max (by omega) (toCV (n := 77) (by omega) ?_))))
  rw [ui_r (by decide), ui_r (by decide), c64, ht.1]
  have e1 : mn (nI n) (nI N) = nI n := by unfold mn; rw [if_neg (nI_nlt hn (by omega))]
  have e2 : mx 0 (nI n) = nI n := by
    have := mx_n (a := 0) (b := n) (by omega) (by omega)
    rw [Nat.zero_max] at this
    exact this
  rw [e1, e2]
  generalize eJ : ui (ui (ui (ui C 192 0 2 0) 192 0 3 (-1)) 64 0 2 (nI n)) 64 0 4 0 = J
  have j2 : J 64 0 2 = nI n := by rw [← eJ, ui_k (by omega), ui_s]
  have j4 : J 64 0 4 = nI 0 := by rw [← eJ, ui_s]; rfl
  have j65 : J 65 0 = I 65 0 := by rw [← eJ, ui_off (by omega), ui_off (by omega), ui_off (by omega), ui_off (by omega), c65]
  have j12 : J 192 0 2 = 0 := by rw [← eJ, ui_r (by decide), ui_r (by decide), ui_k (by omega), ui_s]
  have j13 : J 192 0 3 = -1 := by rw [← eJ, ui_r (by decide), ui_r (by decide), ui_s]
  have jr : ∀ r, 128 ≤ r → r ≤ 135 → J r 1 = C r 1 := fun r x y => by rw [← eJ, ui_off (by omega), ui_off (by omega), ui_off (by omega), ui_off (by omega)]
  have jD : frD I J := (oD_D oC).tr ⟨fun r a x y _ => by rw [← eJ, ui_off x, ui_off x, ui_off y, ui_off y], fun j hj => by rw [← eJ, ui_k (by omega), ui_k (by omega), ui_r (by decide), ui_r (by decide)]⟩
  have hT : TxC J (byF t N) n := ⟨j2, by omega, fun i hi => by rw [j65, ht.2 i (by omega)]; exact byF_e hO (by omega), byF_lt hO⟩
  have D0 : DrC J R0 0 0 := by
    have a := jr 128 (by omega) (by omega)
    refine ⟨⟨by rw [a, v10]; rfl, by rw [a, v11]; rfl, by rw [a, v8]; rfl, by rw [a, v12]; rfl, fun c hc => absurd hc (Nat.not_lt_zero _), fun w hw => absurd hw (Nat.not_lt_zero _)⟩, ?_, ?_, by rw [a, v7]; rfl, by rw [a, v9]; rfl⟩
    · show J 128 1 14 ≤ J 128 1 13
      rw [a, v14, v13]; exact Int32.le_refl _
    · show J 128 1 16 ≤ J 128 1 15
      rw [a, v16, v15]; exact Int32.le_refl _
  clear eJ jr j65 v16 v15 v14 v13 v12 v11 v10 v9 v8 v7
  refine x_Tok_step (by omega) hT j4 (by omega) (fun J1 k1 f1 => ⟨rfl, rfl, ?_⟩)
  have P1 : PsC J1 (byF t N) n 0 := ⟨TxC_fr hT f1, k1, by omega, by rw [f1.1 192 0 (by omega)]; exact ⟨j12, j13⟩⟩
  have D1 : DrC J1 R0 0 0 := D0.R (frT_R f1)
  have F1 : frD I J1 := jD.tr (frR_D (frT_R f1))
  clear jD D0 k1 f1 j12 j13 j2 j4 oC c64 c65 hT
  have bad : ∀ J' x, FtC J' x.1 x.2 → frD I J' → o = Sum.inl x → XX (79 + 1) m_Rd_read (fun r I' L' => r = none ∧ K I' L') 31 [vR 192 0, vD, vI 0] [] J' L := fun J' x hF hR er => r_Rd_read_31 ⟨fun _ => ⟨rfl, h J' (by rw [er]; exact ⟨hF, hR⟩)⟩, fun _ => snd_F (by omega) hF ⟨rfl, h J' (by rw [er]; exact ⟨hF, hR⟩)⟩⟩
  have u8 : ∀ {J' : MI} {y : Int32}, oD J' (ui J' 128 1 8 y) := oD.rf.ui (by omega) (by omega)
  have u9 : ∀ {J' : MI} {y : Int32}, oD J' (ui J' 128 1 9 y) := oD.rf.ui (by omega) (by omega)
  unfold roadO at ho
  refine toCV (n := 78) (by omega) (r_Rd_firstLine_0 ?_)
  refine twP (j := 0) (by omega) P1 (by omega) ho (fun J2 P2 F2 l2 k2 => ?_) (fun J x hF hR er => c_Rd_takeWordF (by omega) hF (c_Rd_takeNumberF (by omega) hF (c_Rd_takeWordF (by omega) (hF.oD u8) (c_Rd_takeNumberF (by omega) (hF.oD u8) (c_Rd_endLineF (by omega) ((hF.oD u8).oD u9) (fun J' f' r' => ⟨rfl, bad J' x f' ((((F1.tr (frR_D hR)).tr (oD_D u8)).tr (oD_D u9)).tr r') er⟩))))))
  refine twP (j := 1) (by omega) P2 (by omega) k2 (fun J3 P3 F3 l3 k3 => ?_) (fun J x hF hR er => c_Rd_takeNumberF (by omega) hF (c_Rd_takeWordF (by omega) (hF.oD u8) (c_Rd_takeNumberF (by omega) (hF.oD u8) (c_Rd_endLineF (by omega) ((hF.oD u8).oD u9) (fun J' f' r' => ⟨rfl, bad J' x f' ((((F1.tr (frR_D (F2.tr hR))).tr (oD_D u8)).tr (oD_D u9)).tr r') er⟩)))))
  have D3 := (D1.R F2).R F3
  have G3 := F1.tr (frR_D (F2.tr F3))
  refine tnP (a := 1) (b := 100) (by omega) P3 (by omega) (hy_c (b := 99) (by omega)) k3 (fun J4 v P4 F4 l4 v1 v2 k4 => ?_) (fun y J x hF hR er => c_Rd_takeWordF (by omega) (hF.oD u8) (c_Rd_takeNumberF (by omega) (hF.oD u8) (c_Rd_endLineF (by omega) ((hF.oD u8).oD u9) (fun J' f' r' => ⟨rfl, bad J' x f' ((((G3.tr (frR_D hR)).tr (oD_D u8)).tr (oD_D u9)).tr r') er⟩))))
  have D4 := DrC_8 (v := v) (D3.R F4)
  have G4 := (G3.tr (frR_D F4)).tr (oD_D (u8 (J' := J4) (y := nI v)))
  refine twP (j := 2) (by omega) (P4.oD u8) (by omega) k4 (fun J5 P5 F5 l5 k5 => ?_) (fun J x hF hR er => c_Rd_takeNumberF (by omega) hF (c_Rd_endLineF (by omega) (hF.oD u9) (fun J' f' r' => ⟨rfl, bad J' x f' (((G4.tr (frR_D hR)).tr (oD_D u9)).tr r') er⟩)))
  refine tnP (a := 0) (b := 10) (by omega) P5 (by omega) (hy_c (b := 9) (by omega)) k5 (fun J6 u P6 F6 l6 _ u2 k6 => ?_) (fun y J x hF hR er => c_Rd_endLineF (by omega) (hF.oD u9) (fun J' f' r' => ⟨rfl, bad J' x f' (((G4.tr (frR_D (F5.tr hR))).tr (oD_D u9)).tr r') er⟩))
  have D6 := DrC_9 (v := u) ((D4.R F5).R F6)
  have G6 := (G4.tr (frR_D (F5.tr F6))).tr (oD_D (u9 (J' := J6) (y := nI u)))
  refine c_Rd_endLine (by omega) (WF_P WF_0 v1 v2) (P6.oD u9) D6 (by omega) (fun J7 h7 => ⟨rfl, ?_⟩)
  rcases bnL_cs k6 with ⟨x, ex, er⟩ | ⟨z, ez, k7⟩
  · rw [ex] at h7
    exact bad J7 x h7.1 (G6.tr h7.2) er
  · rw [ez] at h7
    obtain ⟨P7, F7, l7, W7, m7, hm7, D7⟩ := h7
    refine lpsC (by omega) 901 z.2 z.1 0 m7 J7 _ (by omega) (by omega) W7 P7 D7 hm7 (G6.tr F7) rfl (fun I' hz => ⟨rfl, h I' ?_⟩)
    rcases bnL_cs k7 with ⟨x, ex, er⟩ | ⟨R', eR, er⟩
    · rw [ex] at hz
      rw [er]
      exact hz
    · rw [eR] at hz
      rw [← er]
      exact ⟨u2, hz⟩
theorem lawD_A {J : MI} {jb je m : Nat} {o : Option DN} (h : lawD J jb je m o) : lawA J 1 jb je o := by
  cases o with
  | none => exact h
  | some f =>
    obtain ⟨b, e, hb, he, _, h1⟩ := h
    exact ⟨b, e, hb, he, h1⟩
theorem DrC_A {J : MI} {R : RD} {mu m : Nat} (h : DrC J R mu m) : RoadA J 1 R := by
  obtain ⟨⟨h10, h11, h8, h12, hcs, hws⟩, hT, hU, h7, h9⟩ := h
  exact ⟨h10, h11, h8, h12, hcs, hws, lawD_A hT, lawD_A hU⟩
/-- what reading a text changes; what going by it changes -/
def rfS : Nat → Nat → Prop := fun r a => (r = 64 ∧ a = 0) ∨ (r = 192 ∧ a = 0) ∨ rdS 1 r a
def roS : Nat → Nat → Prop := fun r a => rfS r a ∨ reS r a
theorem frD_S {J J' : MI} (h : frD J J') : Same rfS J J' := fun r a hn => h.1 r a (fun z => hn (Or.inl z)) (fun z => hn (Or.inr (Or.inl z))) (fun z => hn (Or.inr (Or.inr z)))
theorem w_road {a : Int32} {K : Int32 → MI → ML → Prop} (hd : 83 ≤ d) (ht : TpC I t N) (hO : TpO t N) (hc : ∃ e, e < 10 ∧ I 576 0 1 = nI e) (h3 : ¬ (0 ≤ a.toInt ∧ a.toInt ≤ N) → K (-3) I L)
    (h0 : ∀ n x, n ≤ N → a = nI n → roadO (byF t N) n = Sum.inl x → ∀ I', FtC I' x.1 x.2 → I' 64 0 1 = 0 → Same rfS I I' → K (-30 - nI x.1) I' L)
    (h1 : ∀ n u R, n ≤ N → a = nI n → roadO (byF t N) n = Sum.inr (u, R) → ∀ I', u < 10 → WF R → CoC I' R (st0 (nI u)) [] → RgA I' R → I' 192 0 2 = 0 → I' 192 0 3 = -1 → I' 64 0 1 = 0 → Same roS I I' → K (rN R) I' L) : CI d m_W_road [vR 0 0, vI a] I L K := by
  have z0 : (0 : Int32).toInt = 0 := rfl
  have hN := hO.1
  have eN : (nI N).toInt = N := nI_toInt (by omega)
  refine toCI (n := 82) hd (r_W_road_0 ⟨fun q => ⟨_, rfl, h3 (fun z => ?_)⟩, fun q => toCI (n := 0) (by omega) (r_Tok_size_0 ⟨_, rfl, ?_⟩)⟩)
  · have := Int32.lt_iff_toInt_lt.mp q; have := z.1; omega
  rw [ht.1]
  refine ⟨fun q2 => ?_, fun q2 => ⟨_, rfl, h3 (fun z => q2 (Int32.le_iff_toInt_le.mpr (by rw [eN]; exact z.2)))⟩⟩
  have a1 := Int32.le_iff_toInt_le.mp (Int32.not_lt.mp q)
  have a2 := Int32.le_iff_toInt_le.mp q2
  rw [eN] at a2
  have e1 := ge_nI (a := a) (by omega)
  have b1 : a.toInt.toNat ≤ N := by omega
  have f0 := fun x => h0 _ x b1 e1
  have f1 := fun u R => h1 _ u R b1 e1
  clear q q2 h0 h1 h3 a1 a2
  generalize a.toInt.toNat = n at *
  subst e1
  refine c_Rd_read (by omega) ht hO b1 (fun I1 hy => toCV (n := 81) (by omega) (r_Tok_empty_0 ⟨rfl, toCI (n := 81) (by omega) (r_Rd_faultKind_0 ⟨_, rfl, ?_⟩)⟩))
  have n12 : ui I1 64 0 1 0 192 0 = I1 192 0 := ui_off (by omega)
  have S1 : Same rfS I1 (ui I1 64 0 1 0) := Same.rf.ui (Or.inl ⟨rfl, rfl⟩)
  rw [n12]
  cases eo : roadO (byF t N) n with
  | inl x =>
    rw [eo] at hy
    obtain ⟨hF, hD⟩ := hy
    refine ⟨fun q => absurd q (Ft_ne hF), fun _ => toCI (n := 81) (by omega) (r_Rd_faultKind_0 ⟨_, rfl, _, rfl, ?_⟩)⟩
    rw [n12, hF.1]
    refine f0 x eo _ ?_ ui_s ((frD_S hD).tr S1)
    unfold FtC
    rw [n12]
    exact hF
  | inr y =>
    rw [eo] at hy
    obtain ⟨hu, hW, y2, y3, hD, m, D1⟩ := hy
    rw [y2]
    refine ⟨fun _ => ?_, fun q => absurd rfl q⟩
    have A1 : RoadA (ui I1 64 0 1 0) 1 y.2 := (DrC_A D1).same (S := fun r b => r = 64 ∧ b = 0) (Same.rf.ui ⟨rfl, rfl⟩) (fun r x z w => by have := w.1; omega)
    have u9 : ui I1 64 0 1 0 128 1 9 = nI y.1 := by rw [ui_r (by decide)]; exact D1.2.2.2.2
    have y12 : ui I1 64 0 1 0 192 0 2 = 0 := by rw [n12]; exact y2
    have y13 : ui I1 64 0 1 0 192 0 3 = -1 := by rw [n12]; exact y3
    have y64 : ui I1 64 0 1 0 64 0 1 = 0 := ui_s
    have S2 : Same rfS I (ui I1 64 0 1 0) := (frD_S hD).tr S1
    clear n12 S1 hD D1 y2 y3
    generalize ui I1 64 0 1 0 = J at *
    obtain ⟨e, he, h6⟩ := hc
    have j6 : J 576 0 1 = nI e := by
      rw [S2 576 0 (fun q => by rcases q with q | q | q <;> first | omega | (have := q.2.1; omega))]; exact h6
    refine c_Road_copy (i := 0) (j := 1) (by omega) (by omega) hW A1 (fun I2 hA2 hS2 e9 => ?_)
    rw [e9, u9]
    refine c_St_begin (by omega) (fun I3 hs3 hS3 => ?_)
    have hA3 : RoadA I3 0 y.2 := hA2.same hS3 (fun r h1 h2 q => by rcases q.1 with y | y | y | y <;> omega)
    have he3 : ∃ e, e < 10 ∧ I3 576 0 1 = nI e := by
      refine ⟨e, he, ?_⟩
      rw [hS3 576 0 (fun q => by rcases q.1 with y | y | y | y <;> omega), hS2 576 0 (fun q => by have := q.2.1; omega)]
      exact j6
    refine toCV (n := 9) (by omega) (r_W_setOutAnew_0 (c_Pa_forget (by omega) he3 (fun I4 hP4 hS4 => ?_)))
    have hA4 : RoadA I4 0 y.2 := hA3.same hS4 (fun r h1 h2 => paS_road h1 h2)
    have hs4 : StA I4 0 (st0 (nI y.1)) := hs3.same hS4 (fun q => by rcases q with y | y <;> omega) (fun q => by rcases q with y | y <;> omega) (fun q => by rcases q with y | y <;> omega) (fun q => by rcases q with y | y <;> omega)
    refine c_Go_forget (by omega) hW hA4 (fun I5 hG5 hS5 => ?_)
    have hA5 : RoadA I5 0 y.2 := hA4.same hS5 (fun r h1 h2 q => by rcases q.1 with y | y | y | y <;> omega)
    have hs5 : StA I5 0 (st0 (nI y.1)) := hs4.same hS5 (fun q => by rcases q.1 with y | y | y | y <;> omega) (fun q => by rcases q.1 with y | y | y | y <;> omega) (fun q => by rcases q.1 with y | y | y | y <;> omega) (fun q => by rcases q.1 with y | y | y | y <;> omega)
    have hP5 : PaA I5 [] := hP4.same hS5 (fun q => by rcases q.1 with y | y | y | y <;> omega) (fun r a x y _ _ q => by rcases q.1 with y | y | y | y <;> omega)
    refine c_Rg_find (by omega) hW hA5 (fun I6 hr6 hS6 => ⟨rfl, _, rfl, ?_⟩)
    have hc6 : CoC I6 y.2 (st0 (nI y.1)) [] := CoC_off ⟨hA5, hs5, hG5, hP5⟩ hS6 (fun r x y => rg_road x y) (fun r b x y _ q => by rcases q.1 with z | z <;> omega) (fun r x y q => by rcases q.1 with z | z <;> omega) (fun q => by rcases q.1 with z | z <;> omega)
    have hre : Same reS J I6 := by
      refine (((hS2.mono (fun _ _ q => Or.inl q)).tr (hS3.mono (fun r b q => Or.inr (Or.inl (Or.inl ⟨q.1, by have := q.2; omega⟩))))).tr (hS4.mono (fun r b q => Or.inr (Or.inl ?_)))).tr ((hS5.mono (fun r b q => ?_)).tr (hS6.mono (fun _ _ q => Or.inr (Or.inr (Or.inl q)))))
      · rcases q with q | q
        · exact Or.inr (Or.inr q)
        · exact Or.inl ⟨q.1, by omega⟩
      · rcases q.1 with y | y | y | y
        · exact Or.inr (Or.inl (Or.inr (Or.inl ⟨by simp [y], q.2⟩)))
        · exact Or.inr (Or.inr (Or.inr ⟨y, q.2⟩))
        · exact Or.inr (Or.inl (Or.inr (Or.inl ⟨by simp [y], q.2⟩)))
        · exact Or.inr (Or.inl (Or.inr (Or.inl ⟨by simp [y], q.2⟩)))
    have n192 : ¬ reS 192 0 := fun q => by
      rcases q with q | q | q | q
      · have := q.2.1; omega
      · rcases q with q | q | q
        · omega
        · rcases q.1 with z | z | z | z | z | z | z | z | z <;> omega
        · omega
      · rcases q.1 with z | z <;> omega
      · omega
    have n64 : ¬ reS 64 0 := fun q => by
      rcases q with q | q | q | q
      · have := q.1; omega
      · rcases q with q | q | q
        · omega
        · rcases q.1 with z | z | z | z | z | z | z | z | z <;> omega
        · omega
      · rcases q.1 with z | z <;> omega
      · omega
    rw [hc6.1.2.2.2.1]
    exact f1 y.1 y.2 eo I6 hu hW hc6 hr6 (by rw [hre 192 0 n192]; exact y12) (by rw [hre 192 0 n192]; exact y13) (by rw [hre 64 0 n64]; exact y64) ((S2.mono (fun _ _ q => Or.inl q)).tr (hre.mono (fun _ _ q => Or.inr q)))
end RoadC

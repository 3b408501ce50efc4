/-! the program reads a line -/
def lawD (I : MI) (jb je m : Nat) (o : Option DN) : Prop := match o with
  | none => I 128 1 je ≤ I 128 1 jb
  | some f => ∃ b e : Nat, I 128 1 jb = nI b ∧ I 128 1 je = nI e ∧ e ≤ m ∧ LwA (I 135 1) b e f
/-- the draft is R, its first mud mu, its steps m -/
def DrC (I : MI) (R : RD) (mu m : Nat) : Prop := (I 128 1 10 = nI (rC R) ∧ I 128 1 11 = nI (rW R) ∧ I 128 1 8 = rP R ∧ I 128 1 12 = rN R ∧ (∀ c, c < rC R → I 129 1 c = rh R c ∧ I 130 1 c = rp R c) ∧
  (∀ w, w < rW R → I 131 1 w = nI (rf R w) ∧ I 132 1 w = nI (rt R w) ∧ I 133 1 w = rk R w ∧ I 134 1 w = nI (rl R w))) ∧ lawD I 13 14 m (rT R) ∧ lawD I 15 16 m (rU R) ∧ I 128 1 7 = nI m ∧ I 128 1 9 = nI mu
def frD (I I' : MI) : Prop := (∀ r a, ¬ (r = 64 ∧ a = 0) → ¬ (r = 192 ∧ a = 0) → ¬ rdS 1 r a → I' r a = I r a) ∧ ∀ j, j < 2 → I' 64 0 j = I 64 0 j
theorem frD.rf {I : MI} : frD I I := ⟨fun _ _ _ _ _ => rfl, fun _ _ => rfl⟩
theorem frD.tr {I I' I'' : MI} (h : frD I I') (h' : frD I' I'') : frD I I'' := ⟨fun r a x y z => (h'.1 r a x y z).trans (h.1 r a x y z), fun j x => (h'.2 j x).trans (h.2 j x)⟩
theorem frP_D {I I' : MI} (h : frP I I') : frD I I' := ⟨fun r a x y z => h.1 r a x y (fun w => z ⟨by omega, by omega, w.2⟩) (fun w => z ⟨by omega, by omega, w.2⟩), fun j x => h.2.1 j (by omega)⟩
theorem frR_D {I I' : MI} (h : frR I I') : frD I I' := frP_D (frR_P h)
/-- only the draft changes -/
def oD (I I' : MI) : Prop := ∀ r a, ¬ rdS 1 r a → I' r a = I r a
theorem oD_D {I I' : MI} (h : oD I I') : frD I I' := ⟨fun r a _ _ z => h r a z, fun j _ => by rw [h 64 0 (fun z => by have := z.1; omega)]⟩
theorem oD.ui {I I' : MI} {r j : Nat} {x : Int32} (h : oD I I') (h1 : 128 ≤ r) (h2 : r ≤ 135) : oD I (ui I' r 1 j x) := fun r' a z => by rw [ui_off (fun w => z ⟨by omega, by omega, w.2⟩)]; exact h r' a z
theorem oD.rf {I : MI} : oD I I := fun _ _ _ => rfl
theorem PsC.oD {I I' : MI} {B : Nat → Nat} {n p : Nat} (h : PsC I B n p) (e : oD I I') : PsC I' B n p := by
  have e1 := e 64 0 (fun z => by have := z.1; omega)
  have e2 := e 65 0 (fun z => by have := z.1; omega)
  have e3 := e 192 0 (fun z => by have := z.2.1; omega)
  unfold PsC TxC TkC
  rw [e1, e2, e3]
  exact h
theorem FtC.oD {I I' : MI} {k pl : Nat} (h : FtC I k pl) (e : oD I I') : FtC I' k pl := by
  unfold FtC
  rw [e 192 0 (fun z => by have := z.2.1; omega)]
  exact h
theorem DrC.R {I I' : MI} {R : RD} {mu m : Nat} (h : DrC I R mu m) (e : frR I I') : DrC I' R mu m := by
  unfold DrC lawD
  rw [e.1 128 1 (by omega) (by omega), e.1 129 1 (by omega) (by omega), e.1 130 1 (by omega) (by omega), e.1 131 1 (by omega) (by omega), e.1 132 1 (by omega) (by omega), e.1 133 1 (by omega) (by omega), e.1 134 1 (by omega) (by omega), e.1 135 1 (by omega) (by omega)]
  exact h
theorem lawD_k {I J : MI} {jb je m m' : Nat} {o : Option DN} (h : lawD I jb je m o) (e1 : J 128 1 jb = I 128 1 jb) (e2 : J 128 1 je = I 128 1 je) (e3 : ∀ q, q < m → J 135 1 q = I 135 1 q) (hm : m ≤ m') : lawD J jb je m' o := by
  cases o with
  | none => show J 128 1 je ≤ J 128 1 jb; rw [e1, e2]; exact h
  | some f =>
    obtain ⟨b, e, hb, he, hl, h1, h2, h3⟩ := h
    refine ⟨b, e, by rw [e1]; exact hb, by rw [e2]; exact he, by omega, h1, h2, fun nm hn => ?_⟩
    obtain ⟨N, hN, hg⟩ := h3 nm hn
    exact ⟨N, hN, lgo_mono (Nat.le_refl _) (Nat.le_refl _) (fun p hp => e3 p (by omega)) hg⟩
def rsC (B : Nat → Nat) (n : Nat) (I : MI) (p mu : Nat) (o : LO (Nat × RD)) (I' : MI) : Prop := match o with
  | Sum.inl x => FtC I' x.1 x.2 ∧ frD I I'
  | Sum.inr y => PsC I' B n y.1 ∧ frD I I' ∧ p ≤ y.1 ∧ WF y.2 ∧ ∃ m, m ≤ y.1 ∧ DrC I' y.2 mu m
section LineC
variable {d : Nat} {I : MI} {L : ML} {B : Nat → Nat} {n p mu m : Nat} {R : RD}
theorem c_Road_addCoach {a q : Nat} {K : MI → ML → Prop} (hd : 1 ≤ d) (hD : DrC I R mu m) (hc : rC R < 6) (h : ∀ I', DrC I' (addC R a q) mu m → oD I I' → K I' L) : CV d m_Road_addCoach [vR 128 1, vI (nI a), vI (nI q)] I L K := by
  obtain ⟨⟨h10, h11, h8, h12, hcs, hws⟩, hT, hU, h7, h9⟩ := hD
  refine toCV (n := 0) hd (r_Road_addCoach_0 ?_)
  rw [h10, cl_n (by omega), ui_r (by decide), h10, cl_n (by omega), ui_r (by decide), ui_r (by decide), h10, nI_1]
  refine ⟨fun q => absurd q (nlt0 (by omega)), fun _ => ⟨fun q => absurd q (nle_c (m := 6) (by omega) (by omega)), fun _ => ⟨vin (by omega) (by omega), vin (by omega) (by omega), rfl, h _ ?_ (((oD.rf.ui (by omega) (by omega)).ui (by omega) (by omega)).ui (by omega) (by omega))⟩⟩⟩
  have e5 : ∀ x y z, ui (ui (ui I 129 1 (rC R) x) 130 1 (rC R) y) 128 1 10 z 135 1 = I 135 1 := fun x y z => by rw [ui_off (by omega), ui_off (by omega), ui_off (by omega)]
  have e8 : ∀ x y z j, j ≠ 10 → ui (ui (ui I 129 1 (rC R) x) 130 1 (rC R) y) 128 1 10 z 128 1 j = I 128 1 j := fun x y z j hj => by rw [ui_k hj, ui_r (by decide), ui_r (by decide)]
  refine ⟨⟨by rw [ui_s]; rfl, by rw [e8 _ _ _ _ (by omega)]; exact h11, by rw [e8 _ _ _ _ (by omega)]; exact h8, by rw [e8 _ _ _ _ (by omega)]; exact h12, fun c hc' => ?_, fun w hw => ?_⟩, lawD_k hT (e8 _ _ _ _ (by omega)) (e8 _ _ _ _ (by omega)) (fun q _ => by rw [e5]) (Nat.le_refl _), lawD_k hU (e8 _ _ _ _ (by omega)) (e8 _ _ _ _ (by omega)) (fun q _ => by rw [e5]) (Nat.le_refl _), by rw [e8 _ _ _ _ (by omega)]; exact h7, by rw [e8 _ _ _ _ (by omega)]; exact h9⟩
  · have hc' : c < rC R + 1 := hc'
    show _ = (if c = rC R then nI a else rh R c) ∧ _ = (if c = rC R then nI q else rp R c)
    by_cases e : c = rC R
    · rw [if_pos e, if_pos e, e]
      refine ⟨?_, ?_⟩
      · rw [ui_r (by decide), ui_r (by decide), ui_s]
      · rw [ui_r (by decide), ui_s]
    · rw [if_neg e, if_neg e, ui_off (by omega), ui_off (by omega), ui_k e, ui_off (by omega), ui_k e, ui_off (by omega)]
      exact hcs c (by omega)
  · rw [ui_off (by omega), ui_off (by omega), ui_off (by omega), ui_off (by omega), ui_off (by omega), ui_off (by omega), ui_off (by omega), ui_off (by omega), ui_off (by omega), ui_off (by omega), ui_off (by omega), ui_off (by omega)]
    exact hws w hw
theorem c_Road_addWait {f t k l : Nat} {K : MI → ML → Prop} (hd : 1 ≤ d) (hD : DrC I R mu m) (hc : rW R < 10) (h : ∀ I', DrC I' (addW R f t k l) mu m → oD I I' → K I' L) : CV d m_Road_addWait [vR 128 1, vI (nI f), vI (nI t), vI (nI k), vI (nI l)] I L K := by
  obtain ⟨⟨h10, h11, h8, h12, hcs, hws⟩, hT, hU, h7, h9⟩ := hD
  refine toCV (n := 0) hd (r_Road_addWait_0 ?_)
  have e1 : ∀ x, ui I 131 1 (rW R) x 128 1 = I 128 1 := fun x => by rw [ui_off (by omega)]
  have e2 : ∀ x y, ui (ui I 131 1 (rW R) x) 132 1 (rW R) y 128 1 = I 128 1 := fun x y => by rw [ui_off (by omega), ui_off (by omega)]
  have e3 : ∀ x y z, ui (ui (ui I 131 1 (rW R) x) 132 1 (rW R) y) 133 1 (rW R) z 128 1 = I 128 1 := fun x y z => by rw [ui_off (by omega), ui_off (by omega), ui_off (by omega)]
  have e4 : ∀ x y z u, ui (ui (ui (ui I 131 1 (rW R) x) 132 1 (rW R) y) 133 1 (rW R) z) 134 1 (rW R) u 128 1 = I 128 1 := fun x y z u => by rw [ui_off (by omega), ui_off (by omega), ui_off (by omega), ui_off (by omega)]
  rw [h11, cl_n (by omega), e1, h11, cl_n (by omega), e2, h11, cl_n (by omega), e3, h11, cl_n (by omega), e4, h11, nI_1]
  refine ⟨fun q => absurd q (nlt0 (by omega)), fun _ => ⟨fun q => absurd q (nle_c (m := 10) (by omega) (by omega)), fun _ => ⟨vin (by omega) (by omega), vin (by omega) (by omega), vin (by omega) (by omega), vin (by omega) (by omega), rfl, h _ ?_ (((((oD.rf.ui (by omega) (by omega)).ui (by omega) (by omega)).ui (by omega) (by omega)).ui (by omega) (by omega)).ui (by omega) (by omega))⟩⟩⟩
  have e5 : ∀ x y z u v, ui (ui (ui (ui (ui I 131 1 (rW R) x) 132 1 (rW R) y) 133 1 (rW R) z) 134 1 (rW R) u) 128 1 11 v 135 1 = I 135 1 := fun x y z u v => by rw [ui_off (by omega), ui_off (by omega), ui_off (by omega), ui_off (by omega), ui_off (by omega)]
  have e8 : ∀ x y z u v j, j ≠ 11 → ui (ui (ui (ui (ui I 131 1 (rW R) x) 132 1 (rW R) y) 133 1 (rW R) z) 134 1 (rW R) u) 128 1 11 v 128 1 j = I 128 1 j := fun x y z u v j hj => by rw [ui_k hj, e4]
  refine ⟨⟨by rw [e8 _ _ _ _ _ _ (by omega)]; exact h10, by rw [ui_s]; rfl, by rw [e8 _ _ _ _ _ _ (by omega)]; exact h8, by rw [e8 _ _ _ _ _ _ (by omega)]; exact h12, fun c hc' => ?_, fun w hw => ?_⟩, lawD_k hT (e8 _ _ _ _ _ _ (by omega)) (e8 _ _ _ _ _ _ (by omega)) (fun q _ => by rw [e5]) (Nat.le_refl _), lawD_k hU (e8 _ _ _ _ _ _ (by omega)) (e8 _ _ _ _ _ _ (by omega)) (fun q _ => by rw [e5]) (Nat.le_refl _), by rw [e8 _ _ _ _ _ _ (by omega)]; exact h7, by rw [e8 _ _ _ _ _ _ (by omega)]; exact h9⟩
  · rw [ui_off (by omega), ui_off (by omega), ui_off (by omega), ui_off (by omega), ui_off (by omega), ui_off (by omega), ui_off (by omega), ui_off (by omega), ui_off (by omega), ui_off (by omega)]
    exact hcs c hc'
  · have hw : w < rW R + 1 := hw
    show _ = nI (if w = rW R then f else rf R w) ∧ _ = nI (if w = rW R then t else rt R w) ∧ _ = (if w = rW R then nI k else rk R w) ∧ _ = nI (if w = rW R then l else rl R w)
    by_cases e : w = rW R
    · rw [if_pos e, if_pos e, if_pos e, if_pos e, e]
      refine ⟨?_, ?_, ?_, ?_⟩
      · rw [ui_r (by decide), ui_r (by decide), ui_r (by decide), ui_r (by decide), ui_s]
      · rw [ui_r (by decide), ui_r (by decide), ui_r (by decide), ui_s]
      · rw [ui_r (by decide), ui_r (by decide), ui_s]
      · rw [ui_r (by decide), ui_s]
    · rw [if_neg e, if_neg e, if_neg e, if_neg e]
      have := hws w (by omega)
      refine ⟨?_, ?_, ?_, ?_⟩
      · rw [ui_r (by decide), ui_r (by decide), ui_r (by decide), ui_r (by decide), ui_k e]; exact this.1
      · rw [ui_r (by decide), ui_r (by decide), ui_r (by decide), ui_k e, ui_r (by decide)]; exact this.2.1
      · rw [ui_r (by decide), ui_r (by decide), ui_k e, ui_r (by decide), ui_r (by decide)]; exact this.2.2.1
      · rw [ui_r (by decide), ui_k e, ui_r (by decide), ui_r (by decide), ui_r (by decide)]; exact this.2.2.2
theorem c_Rd_coachLine {K : MI → ML → Prop} (hd : 8 ≤ d) (hW : WF R) (hP : PsC I B n p) (hD : DrC I R mu m) (hm : m ≤ p) (h : ∀ I', rsC B n I p mu (coachO B n R p) I' → K I' L) : CV d m_Rd_coachLine [vR 192 0] I L K := by
  generalize ho : coachO B n R p = o at h
  refine toCV (n := 7) hd (r_Rd_coachLine_0 ?_)
  rw [hD.1.1]
  unfold coachO at ho
  have bad : ∀ J x, FtC J x.1 x.2 → frR I J → o = Sum.inl x → (none : Option MV) = none ∧ K J L := fun J x hF hR er => ⟨rfl, h J (by rw [er]; exact ⟨hF, frR_D hR⟩)⟩
  refine ⟨fun q => ?_, fun q => ?_⟩
  · have lt : rC R < 6 := by
      rcases Nat.lt_or_ge (rC R) 6 with z | z
      · exact z
      · exact absurd q (nI_nlt (b := 6) z (by have := hW.1; omega))
    rw [if_pos lt] at ho
    refine twP (j := 3) (by omega) hP (by omega) ho (fun J1 P1 F1 l1 k1 => ?_) (fun J x hF hR er => c_Rd_takeWordF (by omega) hF (c_Rd_takeNumberF (by omega) hF (c_Rd_takeWordF (by omega) hF (c_Rd_takeNumberF (by omega) hF (snd_F (by omega) hF (bad J x hF hR er))))))
    refine twP (j := 4) (by omega) P1 (by omega) k1 (fun J2 P2 F2 l2 k2 => ?_) (fun J x hF hR er => c_Rd_takeNumberF (by omega) hF (c_Rd_takeWordF (by omega) hF (c_Rd_takeNumberF (by omega) hF (snd_F (by omega) hF (bad J x hF (F1.tr hR) er)))))
    refine tnP (a := 0) (b := 100) (by omega) P2 (by omega) (hy_c (b := 99) (by omega)) k2 (fun J3 a P3 F3 l3 _ a3 k3 => ?_) (fun _ J x hF hR er => c_Rd_takeWordF (by omega) hF (c_Rd_takeNumberF (by omega) hF (snd_F (by omega) hF (bad J x hF ((F1.tr F2).tr hR) er))))
    refine twP (j := 5) (by omega) P3 (by omega) k3 (fun J4 P4 F4 l4 k4 => ?_) (fun J x hF hR er => c_Rd_takeNumberF (by omega) hF (snd_F (by omega) hF (bad J x hF (((F1.tr F2).tr F3).tr hR) er)))
    refine tnP (a := 0) (b := 100) (by omega) P4 (by omega) (hy_c (b := 99) (by omega)) k4 (fun J5 b P5 F5 l5 _ b5 k5 => ?_) (fun _ J x hF hR er => snd_F (by omega) hF (bad J x hF ((((F1.tr F2).tr F3).tr F4).tr hR) er))
    have FF := (((F1.tr F2).tr F3).tr F4).tr F5
    refine c_Rd_isSound (by omega) (fun _ => ⟨fun z => absurd z (by decide), fun _ => ?_⟩) (fun z => absurd P5.2.2.2.1 z)
    refine c_Road_addCoach (by omega) (hD.R FF) lt (fun J6 D6 o6 => ⟨rfl, h J6 ?_⟩)
    rw [← k5]
    exact ⟨P5.oD o6, (frR_D FF).tr (oD_D o6), by omega, WF_C hW lt a3 b5, m, by omega, D6⟩
  · have nlt : ¬ rC R < 6 := fun z => q (nI_lt (b := 6) z (by omega))
    rw [if_neg nlt] at ho
    exact c_Rd_refuse (w := 4) (by omega) hP (by omega) (by omega) (fun J hF hR => c_Rd_takeWordF (by omega) hF (c_Rd_takeWordF (by omega) hF (c_Rd_takeNumberF (by omega) hF (c_Rd_takeWordF (by omega) hF (c_Rd_takeNumberF (by omega) hF (snd_F (by omega) hF (bad J _ hF hR ho.symm)))))))
theorem c_Rd_waitLine {K : MI → ML → Prop} (hd : 8 ≤ d) (hW : WF R) (hP : PsC I B n p) (hD : DrC I R mu m) (hm : m ≤ p) (h : ∀ I', rsC B n I p mu (waitO B n R p) I' → K I' L) : CV d m_Rd_waitLine [vR 192 0] I L K := by
  generalize ho : waitO B n R p = o at h
  refine toCV (n := 7) hd (r_Rd_waitLine_0 ?_)
  rw [hD.1.2.1]
  unfold waitO at ho
  have hC := hW.1
  have c10 : ∀ J, frR I J → J 128 1 10 = nI (rC R) := fun J F => by rw [F.1 128 1 (by omega) (by omega)]; exact hD.1.1
  have bad : ∀ J x, FtC J x.1 x.2 → frR I J → o = Sum.inl x → (none : Option MV) = none ∧ K J L := fun J x hF hR er => ⟨rfl, h J (by rw [er]; exact ⟨hF, frR_D hR⟩)⟩
  refine ⟨fun q => ?_, fun q => ?_⟩
  · have lt : rW R < 10 := by
      rcases Nat.lt_or_ge (rW R) 10 with z | z
      · exact z
      · exact absurd q (nI_nlt (b := 10) z (by have := hW.2.1; omega))
    rw [if_pos lt] at ho
    refine twP (j := 6) (by omega) hP (by omega) ho (fun J1 P1 F1 l1 k1 => ?_) (fun J x hF hR er => c_Rd_takeNumberF (by omega) hF (c_Rd_takeNumberF (by omega) hF (c_Rd_takeWordF (by omega) hF (c_Rd_takeNumberF (by omega) hF (c_Rd_takeWordF (by omega) hF ⟨fun _ => c_Rd_takeNumberF (by omega) hF (snd_F (by omega) hF (bad J x hF hR er)), fun _ => c_Rd_takeNumberF (by omega) hF (snd_F (by omega) hF (bad J x hF hR er))⟩)))))
    rw [c10 J1 F1]
    refine tnP (a := 0) (b := rC R) (by omega) P1 (by omega) (hy_1 (by omega)) k1 (fun J2 f P2 F2 l2 _ a2 k2 => ?_) (fun _ J x hF hR er => c_Rd_takeNumberF (by omega) hF (c_Rd_takeWordF (by omega) hF (c_Rd_takeNumberF (by omega) hF (c_Rd_takeWordF (by omega) hF ⟨fun _ => c_Rd_takeNumberF (by omega) hF (snd_F (by omega) hF (bad J x hF (F1.tr hR) er)), fun _ => c_Rd_takeNumberF (by omega) hF (snd_F (by omega) hF (bad J x hF (F1.tr hR) er))⟩))))
    have G2 := F1.tr F2
    rw [c10 J2 G2]
    refine tnP (a := 0) (b := rC R) (by omega) P2 (by omega) (hy_1 (by omega)) k2 (fun J3 t P3 F3 l3 _ a3 k3 => ?_) (fun _ J x hF hR er => c_Rd_takeWordF (by omega) hF (c_Rd_takeNumberF (by omega) hF (c_Rd_takeWordF (by omega) hF ⟨fun _ => c_Rd_takeNumberF (by omega) hF (snd_F (by omega) hF (bad J x hF (G2.tr hR) er)), fun _ => c_Rd_takeNumberF (by omega) hF (snd_F (by omega) hF (bad J x hF (G2.tr hR) er))⟩)))
    have G3 := G2.tr F3
    refine twP (j := 7) (by omega) P3 (by omega) k3 (fun J4 P4 F4 l4 k4 => ?_) (fun J x hF hR er => c_Rd_takeNumberF (by omega) hF (c_Rd_takeWordF (by omega) hF ⟨fun _ => c_Rd_takeNumberF (by omega) hF (snd_F (by omega) hF (bad J x hF (G3.tr hR) er)), fun _ => c_Rd_takeNumberF (by omega) hF (snd_F (by omega) hF (bad J x hF (G3.tr hR) er))⟩))
    have G4 := G3.tr F4
    refine tnP (a := 0) (b := 100) (by omega) P4 (by omega) (hy_c (b := 99) (by omega)) k4 (fun J5 k P5 F5 l5 _ a5 k5 => ?_) (fun _ J x hF hR er => c_Rd_takeWordF (by omega) hF ⟨fun _ => c_Rd_takeNumberF (by omega) hF (snd_F (by omega) hF (bad J x hF (G4.tr hR) er)), fun _ => c_Rd_takeNumberF (by omega) hF (snd_F (by omega) hF (bad J x hF (G4.tr hR) er))⟩)
    have G5 := G4.tr F5
    refine twP (j := 8) (by omega) P5 (by omega) k5 (fun J6 P6 F6 l6 k6 => ?_) (fun J x hF hR er => ⟨fun _ => c_Rd_takeNumberF (by omega) hF (snd_F (by omega) hF (bad J x hF (G5.tr hR) er)), fun _ => c_Rd_takeNumberF (by omega) hF (snd_F (by omega) hF (bad J x hF (G5.tr hR) er))⟩)
    have G6 := G5.tr F6
    refine ⟨fun z => ?_, fun z => ?_⟩
    · have nft : ¬ f < t := fun y => absurd z (Int32.not_le.mpr (nI_lt y (by omega)))
      rw [if_neg nft] at k6
      refine tnP (a := 1) (b := 3) (by omega) P6 (by omega) (hy_c (b := 2) (by omega)) k6 (fun J7 l P7 F7 l7 a7 b7 k7 => ?_) (fun _ J x hF hR er => snd_F (by omega) hF (bad J x hF (G6.tr hR) er))
      refine c_Rd_isSound (by omega) (fun _ => ⟨fun z => absurd z (by decide), fun _ => ?_⟩) (fun z => absurd P7.2.2.2.1 z)
      refine c_Road_addWait (by omega) (hD.R (G6.tr F7)) lt (fun J8 D8 o8 => ⟨rfl, h J8 ?_⟩)
      rw [← k7]
      exact ⟨P7.oD o8, (frR_D (G6.tr F7)).tr (oD_D o8), by omega, WF_W hW lt a2 a3 a5 b7 (by rw [if_neg nft]; exact a7), m, by omega, D8⟩
    · have ft : f < t := by
        rcases Nat.lt_or_ge f t with y | y
        · exact y
        · exact absurd (nI_le y (by omega)) z
      rw [if_pos ft] at k6
      refine tnP (a := 0) (b := 3) (by omega) P6 (by omega) (hy_c (b := 2) (by omega)) k6 (fun J7 l P7 F7 l7 a7 b7 k7 => ?_) (fun _ J x hF hR er => snd_F (by omega) hF (bad J x hF (G6.tr hR) er))
      refine c_Rd_isSound (by omega) (fun _ => ⟨fun z => absurd z (by decide), fun _ => ?_⟩) (fun z => absurd P7.2.2.2.1 z)
      refine c_Road_addWait (by omega) (hD.R (G6.tr F7)) lt (fun J8 D8 o8 => ⟨rfl, h J8 ?_⟩)
      rw [← k7]
      exact ⟨P7.oD o8, (frR_D (G6.tr F7)).tr (oD_D o8), by omega, WF_W hW lt a2 a3 a5 b7 (by rw [if_pos ft]; exact a7), m, by omega, D8⟩
  · have nlt : ¬ rW R < 10 := fun z => q (nI_lt (b := 10) z (by omega))
    rw [if_neg nlt] at ho
    exact c_Rd_refuse (w := 4) (by omega) hP (by omega) (by omega) (fun J hF hR => c_Rd_takeWordF (by omega) hF (c_Rd_takeNumberF (by omega) hF (c_Rd_takeNumberF (by omega) hF (c_Rd_takeWordF (by omega) hF (c_Rd_takeNumberF (by omega) hF (c_Rd_takeWordF (by omega) hF ⟨fun _ => c_Rd_takeNumberF (by omega) hF (snd_F (by omega) hF (bad J _ hF hR ho.symm)), fun _ => c_Rd_takeNumberF (by omega) hF (snd_F (by omega) hF (bad J _ hF hR ho.symm))⟩))))))
end LineC

/-! the reference reads a wait, a law, a line's end -/
section LineM2
variable {d : Nat} {I : MI} {L : ML} {B : Nat → Nat} {n p mu m : Nat} {R : RD}
theorem c_M_readWait {K : MI → ML → Prop} (hd : 9 ≤ d) (hW : WF R) (hP : PsM I B n p) (hk : (tkn B n p).1 = 6) (hD : DrM (I 709 0) R mu m) (hm : m ≤ p) (h : ∀ I', rsM B n I p mu (waitO B n R p) I' → K I' L) : CV d m_M_readWait [vR 704 0] I L K := by
  generalize ho : waitO B n R p = o at h
  unfold waitO tw at ho
  rw [if_pos hk] at ho
  have hC := hW.1
  have hW2 := hW.2.1
  have hf := tk_f (B := B) hP.2.2.1
  have hlt := hf.2.2.2.2.2.1 (by omega)
  have hf1 := hf.1
  obtain ⟨⟨h2, h3, h1, h0, hcs, hws⟩, hT, hU, h283, h80, h6⟩ := hD
  have e4 : (4 : Int32) * nI (rW R) = nI (4 * rW R) := (Int32.ofNat_mul 4 (rW R)).symm
  have e22 : (22 : Int32) + nI (4 * rW R) = nI (22 + 4 * rW R) := nI_add 22 _
  obtain ⟨w0, ew0⟩ : ∃ z, z = 22 + 4 * rW R := ⟨_, rfl⟩
  have f1 : nI w0 + (1 : Int32) = nI (w0 + 1) := nI_add w0 1
  have f2 : nI w0 + (2 : Int32) = nI (w0 + 2) := nI_add w0 2
  have f3 : nI w0 + (3 : Int32) = nI (w0 + 3) := nI_add w0 3
  refine toCV (n := 8) hd (r_M_readWait_0 ?_)
  rw [h3, e4, e22, ← ew0, f1, f2, f3, cl_n (by omega), cl_n (by omega), cl_n (by omega), cl_n (by omega)]
  have q0 : vp_in (nI w0) 1184 := vin (by omega) (by omega)
  have q1 : vp_in (nI (w0 + 1)) 1184 := vin (by omega) (by omega)
  have q2 : vp_in (nI (w0 + 2)) 1184 := vin (by omega) (by omega)
  have q3 : vp_in (nI (w0 + 3)) 1184 := vin (by omega) (by omega)
  have bad : ∀ J x y, FtM J x.1 x.2 → frG I J → o = Sum.inl x → (¬ ((ui J 709 0 (w0 + 3) y) 704 0 11) = 0 → ((none : Option MV) = none ∧ K (ui J 709 0 (w0 + 3) y) L)) ∧ (¬ (¬ ((ui J 709 0 (w0 + 3) y) 704 0 11) = 0) → ((none : Option MV) = none ∧ K (ui (ui J 709 0 (w0 + 3) y) 709 0 3 (((ui J 709 0 (w0 + 3) y) 709 0 3) + (1 : Int32))) L)) := fun J x y hF hG er => ⟨fun _ => ⟨rfl, h _ (by rw [er]; exact ⟨FtM_9 hF, hG.tr frG_9⟩)⟩, fun z => absurd (FtM_ne (FtM_9 hF)) z⟩
  by_cases lt : rW R < 10
  · rw [if_pos lt] at ho
    refine ⟨fun _ => ⟨fun _ => ?_, fun z => absurd hP.2.2.2 z⟩, fun z => absurd (fun y => by have := (nI_eq (b := 10) (by omega) (by omega)).mp y; omega) z⟩
    refine c_M_next (by omega) hP (fun J1 P1 F1 => ?_)
    have G1 := frN_G (frW_N F1)
    have c1 : J1 709 0 = I 709 0 := F1.1 709 0 (by omega)
    rw [c1, h2]
    refine tnM (a := 0) (b := rC R) (by omega) P1 (by omega) (hy_1 (by omega)) ho (fun J2 f P2 F2 l2 _ a2 k2 => ⟨q0, ?_⟩) (fun z J x hF hN er => ⟨q0, c_M_takesF (by omega) (FtM_9 hF) (fun y => ⟨q1, c_M_namedF (by omega) (FtM_9 (FtM_9 hF)) (fun y2 => ⟨q2, q0, q1, fun _ => c_M_namedF (by omega) (FtM_9 (FtM_9 (FtM_9 hF))) (fun y3 => ⟨q3, bad _ x y3 (FtM_9 (FtM_9 (FtM_9 hF))) ((((G1.tr (frN_G hN)).tr frG_9).tr frG_9).tr frG_9) er⟩), fun _ => c_M_namedF (by omega) (FtM_9 (FtM_9 (FtM_9 hF))) (fun y3 => ⟨q3, bad _ x y3 (FtM_9 (FtM_9 (FtM_9 hF))) ((((G1.tr (frN_G hN)).tr frG_9).tr frG_9).tr frG_9) er⟩)⟩)⟩)⟩)
    have c2 : J2 709 0 = I 709 0 := by rw [F2.1 709 0 (by omega)]; exact c1
    have G2 := (G1.tr (frN_G F2)).tr (frG_9 (I := J2) (j := w0) (x := nI f))
    rw [ui_k (by omega), c2, h2]
    refine tnM (a := 0) (b := rC R) (by omega) (PsM_9 P2) (by omega) (hy_1 (by omega)) k2 (fun J3 t P3 F3 l3 _ a3 k3 => ⟨q1, ?_⟩) (fun z J x hF hN er => ⟨q1, c_M_namedF (by omega) (FtM_9 hF) (fun y2 => ⟨q2, q0, q1, fun _ => c_M_namedF (by omega) (FtM_9 (FtM_9 hF)) (fun y3 => ⟨q3, bad _ x y3 (FtM_9 (FtM_9 hF)) (((G2.tr (frN_G hN)).tr frG_9).tr frG_9) er⟩), fun _ => c_M_namedF (by omega) (FtM_9 (FtM_9 hF)) (fun y3 => ⟨q3, bad _ x y3 (FtM_9 (FtM_9 hF)) (((G2.tr (frN_G hN)).tr frG_9).tr frG_9) er⟩)⟩)⟩)
    have G3 := (G2.tr (frN_G F3)).tr (frG_9 (I := J3) (j := w0 + 1) (x := nI t))
    refine nmM (j := 7) (a := 0) (b := 100) (by omega) (PsM_9 P3) (by omega) (by omega) (hy_c (b := 99) (by omega)) k3 (fun J4 p4 k P4 F4 l4 _ a4 k4 => ?_) (fun z J x hF hN er => ⟨q2, q0, q1, fun _ => c_M_namedF (by omega) (FtM_9 hF) (fun y3 => ⟨q3, bad _ x y3 (FtM_9 hF) ((G3.tr (frN_G hN)).tr frG_9) er⟩), fun _ => c_M_namedF (by omega) (FtM_9 hF) (fun y3 => ⟨q3, bad _ x y3 (FtM_9 hF) ((G3.tr (frN_G hN)).tr frG_9) er⟩)⟩)
    have G4 := (G3.tr (frN_G F4)).tr (frG_9 (I := J4) (j := w0 + 2) (x := nI k))
    have c3 : J3 709 0 = ui J2 709 0 w0 (nI f) 709 0 := F3.1 709 0 (by omega)
    have c4 : J4 709 0 = ui J3 709 0 (w0 + 1) (nI t) 709 0 := F4.1 709 0 (by omega)
    have x1 : ui J4 709 0 (w0 + 2) (nI k) 709 0 (w0 + 1) = nI t := by rw [ui_k (by omega), c4, ui_s]
    have x0 : ui J4 709 0 (w0 + 2) (nI k) 709 0 w0 = nI f := by rw [ui_k (by omega), c4, ui_k (by omega), c3, ui_s]
    have xj : ∀ j, j ≠ w0 → j ≠ w0 + 1 → j ≠ w0 + 2 → ui J4 709 0 (w0 + 2) (nI k) 709 0 j = I 709 0 j := fun j y0 y1 y2 => by rw [ui_k y2, c4, ui_k y1, c3, ui_k y0, c2]
    have x2 : ui J4 709 0 (w0 + 2) (nI k) 709 0 (w0 + 2) = nI k := ui_s
    have P5 : PsM (ui J4 709 0 (w0 + 2) (nI k)) B n p4 := PsM_9 P4
    rw [x1, x0]
    generalize ui J4 709 0 (w0 + 2) (nI k) = J5 at *
    have fin : ∀ J6 p6 l, PsM J6 B n p6 → frN J5 J6 → p4 < p6 → l < 3 → (if f < t then 0 else 1) ≤ l → Sum.inr (p6, addW R f t k l) = o → (¬ ((ui J6 709 0 (w0 + 3) (nI l)) 704 0 11) = 0 → ((none : Option MV) = none ∧ K (ui J6 709 0 (w0 + 3) (nI l)) L)) ∧ (¬ (¬ ((ui J6 709 0 (w0 + 3) (nI l)) 704 0 11) = 0) → ((none : Option MV) = none ∧ K (ui (ui J6 709 0 (w0 + 3) (nI l)) 709 0 3 (((ui J6 709 0 (w0 + 3) (nI l)) 709 0 3) + (1 : Int32))) L)) := by
      intro J6 p6 l P6 F6 l6 b6 b7 k6
      have z11 : ui J6 709 0 (w0 + 3) (nI l) 704 0 11 = 0 := by rw [ui_r (by decide)]; exact P6.2.2.2
      refine ⟨fun z => absurd z11 z, fun _ => ⟨rfl, h _ ?_⟩⟩
      rw [← k6]
      have v6 : J6 709 0 = J5 709 0 := F6.1 709 0 (by omega)
      have v33 : ui J6 709 0 (w0 + 3) (nI l) 709 0 3 = nI (rW R) := by rw [ui_k (by omega), v6, xj _ (by omega) (by omega) (by omega)]; exact h3
      have vv : ∀ y j, j ≠ 3 → j ≠ w0 → j ≠ w0 + 1 → j ≠ w0 + 2 → j ≠ w0 + 3 → ui (ui J6 709 0 (w0 + 3) (nI l)) 709 0 3 y 709 0 j = I 709 0 j := fun y j y0 y1 y2 y3 y4 => by rw [ui_k y0, ui_k y4, v6, xj j y1 y2 y3]
      refine ⟨PsM_9 (PsM_9 P6), ((G4.tr (frN_G F6)).tr frG_9).tr frG_9, by show p ≤ p6; omega, WF_W hW lt a2 a3 a4 b6 b7, m, by show m ≤ p6; omega, ?_⟩
      rw [v33, nI_1]
      refine ⟨⟨by rw [vv _ _ (by omega) (by omega) (by omega) (by omega) (by omega)]; exact h2, by rw [ui_s]; rfl, by rw [vv _ _ (by omega) (by omega) (by omega) (by omega) (by omega)]; exact h1, by rw [vv _ _ (by omega) (by omega) (by omega) (by omega) (by omega)]; exact h0, fun c hc => ?_, fun w hw => ?_⟩, lawE_k hT (vv _ _ (by omega) (by omega) (by omega) (by omega) (by omega)) (vv _ _ (by omega) (by omega) (by omega) (by omega) (by omega)) (vv _ _ (by omega) (by omega) (by omega) (by omega) (by omega)) (fun q _ => vv _ _ (by omega) (by omega) (by omega) (by omega) (by omega)) (Nat.le_refl _), lawE_k hU (vv _ _ (by omega) (by omega) (by omega) (by omega) (by omega)) (vv _ _ (by omega) (by omega) (by omega) (by omega) (by omega)) (vv _ _ (by omega) (by omega) (by omega) (by omega) (by omega)) (fun q _ => vv _ _ (by omega) (by omega) (by omega) (by omega) (by omega)) (Nat.le_refl _), by rw [vv _ _ (by omega) (by omega) (by omega) (by omega) (by omega)]; exact h283, by rw [vv _ _ (by omega) (by omega) (by omega) (by omega) (by omega)]; exact h80, fun j y1 y2 y3 => by rw [vv _ _ (by omega) (by omega) (by omega) (by omega) (by omega)]; exact h6 j y1 y2 y3⟩
      · have hc : c < rC R := hc
        rw [vv _ _ (by omega) (by omega) (by omega) (by omega) (by omega), vv _ _ (by omega) (by omega) (by omega) (by omega) (by omega)]
        exact hcs c hc
      · have hw : w < rW R + 1 := hw
        show _ = nI (if w = rW R then f else rf R w) ∧ _ = nI (if w = rW R then t else rt R w) ∧ _ = (if w = rW R then nI k else rk R w) ∧ _ = nI (if w = rW R then l else rl R w)
        by_cases e : w = rW R
        · rw [if_pos e, if_pos e, if_pos e, if_pos e, e, ← ew0]
          refine ⟨?_, ?_, ?_, ?_⟩
          · rw [ui_k (by omega), ui_k (by omega), v6]; exact x0
          · rw [ui_k (by omega), ui_k (by omega), v6]; exact x1
          · rw [ui_k (by omega), ui_k (by omega), v6]; exact x2
          · rw [ui_k (by omega), ui_s]
        · rw [if_neg e, if_neg e, if_neg e, if_neg e, vv _ _ (by omega) (by omega) (by omega) (by omega) (by omega), vv _ _ (by omega) (by omega) (by omega) (by omega) (by omega), vv _ _ (by omega) (by omega) (by omega) (by omega) (by omega), vv _ _ (by omega) (by omega) (by omega) (by omega) (by omega)]
          exact hws w (by omega)
    refine ⟨q2, q0, q1, fun z => ?_, fun z => ?_⟩
    · have nft : ¬ f < t := fun y => absurd z (Int32.not_le.mpr (nI_lt y (by omega)))
      rw [if_neg nft] at k4 fin
      exact nmM (j := 8) (a := 1) (b := 3) (by omega) P5 (by omega) (by omega) (hy_c (b := 2) (by omega)) k4 (fun J6 p6 l P6 F6 l6 a6 b6 k6 => ⟨q3, fin J6 p6 l P6 F6 l6 b6 a6 k6⟩) (fun y J x hF hN er => ⟨q3, bad J x y hF (G4.tr (frN_G hN)) er⟩)
    · have ft : f < t := by
        rcases Nat.lt_or_ge f t with y | y
        · exact y
        · exact absurd (nI_le y (by omega)) z
      rw [if_pos ft] at k4 fin
      exact nmM (j := 8) (a := 0) (b := 3) (by omega) P5 (by omega) (by omega) (hy_c (b := 2) (by omega)) k4 (fun J6 p6 l P6 F6 l6 a6 b6 k6 => ⟨q3, fin J6 p6 l P6 F6 l6 b6 a6 k6⟩) (fun y J x hF hN er => ⟨q3, bad J x y hF (G4.tr (frN_G hN)) er⟩)
  · rw [if_neg lt] at ho
    refine ⟨fun z => absurd (by rw [show rW R = 10 by omega]; rfl) z, fun _ => c_M_fails (w := 4) (by omega) hP (by omega) (by omega) (fun J hF hN => ⟨fun z => absurd z (FtM_ne hF), fun _ => ⟨rfl, h J ?_⟩⟩)⟩
    rw [← ho]
    exact ⟨hF, frN_G hN⟩
theorem c_M_readLaw {rd : Nat} {K : MI → ML → Prop} (hr : rd ≤ 1) (hd : 82 ≤ d) (hW : WF R) (hP : PsM I B n p) (hk : (tkn B n p).1 = 7 + 2 * rd) (hD : DrM (I 709 0) R mu m) (hm : m ≤ p) (h : ∀ I', rsM B n I p mu (lawO B n rd R p) I' → K I' L) : CV d m_M_readLaw [vR 704 0, vI (nI rd)] I L K := by
  generalize ho : lawO B n rd R p = o at h
  unfold lawO at ho
  have ho : (if (tkn B n p).1 = 7 + 2 * rd then _ else _) = o := ho
  rw [if_pos hk] at ho
  have hf := tk_f (B := B) hP.2.2.1
  have hlt := hf.2.2.2.2.2.1 (by omega)
  have hf1 := hf.1
  obtain ⟨⟨h2, h3, h1, h0, hcs, hws⟩, hT, hU, h283, h80, h6⟩ := hD
  have e4 : (4 : Int32) + nI rd = nI (4 + rd) := nI_add 4 _
  have e6 : (6 : Int32) + nI rd = nI (6 + rd) := nI_add 6 _
  have e8 : (8 : Int32) + nI rd = nI (8 + rd) := nI_add 8 _
  have q4 : vp_in (nI (4 + rd)) 1184 := vin (by omega) (by omega)
  have q6 : vp_in (nI (6 + rd)) 1184 := vin (by omega) (by omega)
  have q8 : vp_in (nI (8 + rd)) 1184 := vin (by omega) (by omega)
  refine toCV (n := 81) hd (r_M_readLaw_0 ?_)
  rw [e4, e6, e8, cl_n (by omega), cl_n (by omega), cl_n (by omega)]
  refine c_M_next (by omega) hP (fun J1 P1 F1 => ?_)
  have G1 := frN_G (frW_N F1)
  have c1 : J1 709 0 = I 709 0 := F1.1 709 0 (by omega)
  have bad : ∀ J x {A : Prop}, FtM J x.1 x.2 → frG I J → o = Sum.inl x → ((J 704 0 11) = 0 → A) ∧ (¬ ((J 704 0 11) = 0) → ((none : Option MV) = none ∧ K J L)) := fun J x A hF hG er => ⟨fun z => absurd z (FtM_ne hF), fun _ => ⟨rfl, h J (by rw [er]; exact ⟨hF, hG⟩)⟩⟩
  have h01 : rd = 0 ∨ rd = 1 := by omega
  refine eatM (j := 31) (by omega) P1 (by omega) (by omega) ho (fun J2 P2 F2 l2 k2 => ?_) (fun J x hF hN er => ?_)
  · have c2 : J2 709 0 = I 709 0 := by rw [F2.1 709 0 (by omega)]; exact c1
    have G2 := (G1.tr (frN_G F2)).tr (frG_15 (I := J2) (x := nI rd))
    have hp2 := P2.2.2.1
    have hn := P2.1.2.1
    have hs := lawR_s (B := B) (n := n) (rd := rd) hp2 hn
    rw [c2, h283]
    have e9 : ui J2 704 0 15 (nI rd) 709 0 = I 709 0 := by rw [ui_off (by omega)]; exact c2
    generalize ep2 : (tkn B n (tkn B n p).2.2.1).2.2.1 = p2 at *
    have tl : ∀ J4, mOut B n (ui J2 704 0 15 (nI rd)) m (lawR B n rd p2) J4 → ((J4 704 0 11) = 0 → ((vp_in (nI (4 + rd)) 1184) ∧ (vp_in (nI (6 + rd)) 1184) ∧ (vp_in (nI (8 + rd)) 1184) ∧ ((none : Option MV) = none ∧ K (ui (ui (ui J4 709 0 (4 + rd) 1) 709 0 (6 + rd) (nI m)) 709 0 (8 + rd) (((ui (ui J4 709 0 (4 + rd) 1) 709 0 (6 + rd) (nI m)) 709 0 283) - nI m)) L))) ∧ (¬ ((J4 704 0 11) = 0) → ((none : Option MV) = none ∧ K J4 L)) := by
      intro J4 hO
      rcases bnL_cs k2 with ⟨x, ex, er⟩ | ⟨y, ey, k3⟩
      · rw [ex] at hO
        exact bad J4 x hO.1 (G2.tr (frL_G hO.2)) er
      · rw [ey] at hO hs
        obtain ⟨a1, a2, a3, a4, a5, a6⟩ := prs_ok (B := B) (n := n) (rd := rd) 20000 _ 0 p2 [] d0 _ (by split <;> omega) hp2 (fun _ => rfl) (fun z => by split at z <;> omega) hs
        obtain ⟨b1, b2, b3⟩ := hO
        have a2 : y.1 ≤ n := a2
        have a1 : p2 ≤ y.1 := a1
        have a5 : y.2.1.length ≤ 0 + (y.1 - p2) := a5
        refine ⟨fun _ => ⟨q4, q6, q8, rfl, h _ ?_⟩, fun z => absurd b1.2.2.2 z⟩
        have v83 : ui (ui J4 709 0 (4 + rd) 1) 709 0 (6 + rd) (nI m) 709 0 283 = nI (m + y.2.1.length) := by rw [ui_k (by omega), ui_k (by omega)]; exact b2.1
        rw [v83, nI_sub (by omega), show m + y.2.1.length - m = y.2.1.length by omega, ← k3]
        have vv : ∀ z j, j ≠ 4 + rd → j ≠ 6 + rd → j ≠ 8 + rd → ui (ui (ui J4 709 0 (4 + rd) 1) 709 0 (6 + rd) (nI m)) 709 0 (8 + rd) z 709 0 j = J4 709 0 j := fun z j y1 y2 y3 => by rw [ui_k y3, ui_k y2, ui_k y1]
        have vl : ∀ j, j < 283 → J4 709 0 j = I 709 0 j := fun j hj => by rw [b3.2.2 j hj, e9]
        have vI2 : ∀ z j, j < 283 → j ≠ 4 + rd → j ≠ 6 + rd → j ≠ 8 + rd → ui (ui (ui J4 709 0 (4 + rd) 1) 709 0 (6 + rd) (nI m)) 709 0 (8 + rd) z 709 0 j = I 709 0 j := fun z j y0 y1 y2 y3 => by rw [vv z j y1 y2 y3]; exact vl j y0
        have vq : ∀ z q, q < m → ui (ui (ui J4 709 0 (4 + rd) 1) 709 0 (6 + rd) (nI m)) 709 0 (8 + rd) z 709 0 (284 + q) = I 709 0 (284 + q) := fun z q hq => by rw [vv z _ (by omega) (by omega) (by omega), b2.2.2 q hq, e9]
        have hC := hW.1
        have hW2 := hW.2.1
        refine ⟨PsM_9 (PsM_9 (PsM_9 b1)), (((G2.tr (frL_G b3)).tr frG_9).tr frG_9).tr frG_9, by show p ≤ y.1; omega, WF_L hW a6, m + y.2.1.length, by show m + y.2.1.length ≤ y.1; omega, ?_⟩
        have law : lawE (ui (ui (ui J4 709 0 (4 + rd) 1) 709 0 (6 + rd) (nI m)) 709 0 (8 + rd) (nI y.2.1.length) 709 0) rd (m + y.2.1.length) (some y.2.2) := by
          refine ⟨by rw [ui_k (by omega), ui_k (by omega), ui_s], m, y.2.1, by rw [ui_k (by omega), ui_s], by rw [ui_s], Nat.le_refl _, fun q hq => ?_, fun nm wd hb hw => a6.1 nm wd hb hw []⟩
          rw [vv _ _ (by omega) (by omega) (by omega)]
          exact b2.2.1 q hq
        generalize nI y.2.1.length = yl at *
        have top : (fun f : Nat → Int32 => f 2 = nI (rC R) ∧ f 3 = nI (rW R) ∧ f 1 = rP R ∧ f 0 = rN R ∧ (∀ c, c < rC R → f (10 + c) = rh R c ∧ f (16 + c) = rp R c) ∧ (∀ w, w < rW R → f (22 + 4 * w) = nI (rf R w) ∧ f (22 + 4 * w + 1) = nI (rt R w) ∧ f (22 + 4 * w + 2) = rk R w ∧ f (22 + 4 * w + 3) = nI (rl R w))) (ui (ui (ui J4 709 0 (4 + rd) 1) 709 0 (6 + rd) (nI m)) 709 0 (8 + rd) yl 709 0) := by
          refine ⟨by rw [vI2 _ _ (by omega) (by omega) (by omega) (by omega)]; exact h2, by rw [vI2 _ _ (by omega) (by omega) (by omega) (by omega)]; exact h3, by rw [vI2 _ _ (by omega) (by omega) (by omega) (by omega)]; exact h1, by rw [vI2 _ _ (by omega) (by omega) (by omega) (by omega)]; exact h0, fun c hc => ?_, fun w hw => ?_⟩
          · rw [vI2 _ _ (by omega) (by omega) (by omega) (by omega), vI2 _ _ (by omega) (by omega) (by omega) (by omega)]; exact hcs c hc
          · rw [vI2 _ _ (by omega) (by omega) (by omega) (by omega), vI2 _ _ (by omega) (by omega) (by omega) (by omega), vI2 _ _ (by omega) (by omega) (by omega) (by omega), vI2 _ _ (by omega) (by omega) (by omega) (by omega)]; exact hws w hw
        have v283 : ui (ui (ui J4 709 0 (4 + rd) 1) 709 0 (6 + rd) (nI m)) 709 0 (8 + rd) yl 709 0 283 = nI (m + y.2.1.length) := by rw [vv _ _ (by omega) (by omega) (by omega)]; exact b2.1
        have v80 : ui (ui (ui J4 709 0 (4 + rd) 1) 709 0 (6 + rd) (nI m)) 709 0 (8 + rd) yl 709 0 80 = nI mu := by rw [vI2 _ _ (by omega) (by omega) (by omega) (by omega)]; exact h80
        have v6 : ∀ j, 62 ≤ j → j < 83 → j ≠ 80 → ui (ui (ui J4 709 0 (4 + rd) 1) 709 0 (6 + rd) (nI m)) 709 0 (8 + rd) yl 709 0 j = 0 := fun j y1 y2 y3 => by rw [vI2 _ _ (by omega) (by omega) (by omega) (by omega)]; exact h6 j y1 y2 y3
        rcases h01 with z | z
        · subst z
          exact ⟨top, law, lawE_k hU (vI2 _ _ (by omega) (by omega) (by omega) (by omega)) (vI2 _ _ (by omega) (by omega) (by omega) (by omega)) (vI2 _ _ (by omega) (by omega) (by omega) (by omega)) (fun q hq => vq _ q hq) (by omega), v283, v80, v6⟩
        · subst z
          exact ⟨top, lawE_k hT (vI2 _ _ (by omega) (by omega) (by omega) (by omega)) (vI2 _ _ (by omega) (by omega) (by omega) (by omega)) (vI2 _ _ (by omega) (by omega) (by omega) (by omega)) (fun q hq => vq _ q hq) (by omega), law, v283, v80, v6⟩
    have go := (rdAll (B := B) (n := n) hr 20000).1 (if rd = 0 then 2 else 5) 0 p2 m _ 81 (ui J2 704 0 15 (nI rd)) L (fun J4 L4 => L4 = L ∧ mOut B n (ui J2 704 0 15 (nI rd)) m (lawR B n rd p2) J4) (by split <;> omega) (by omega) hs (PsM_15 P2) ui_s (by rw [e9]; exact h283) (by omega) (by have a1 : dpM 2 0 = 76 := rfl; have a2 : dpM 5 0 = 80 := rfl; split <;> omega)
    have go2 : ∀ K', (∀ I', mOut B n (ui J2 704 0 15 (nI rd)) m (lawR B n rd p2) I' → K' I' L) → CV 81 (mRd (if rd = 0 then 2 else 5)) [vR 704 0, vI (nI 0)] (ui J2 704 0 15 (nI rd)) L K' := fun K' hK' => (rdAll (B := B) (n := n) hr 20000).1 (if rd = 0 then 2 else 5) 0 p2 m _ 81 (ui J2 704 0 15 (nI rd)) L K' (by split <;> omega) (by omega) hs (PsM_15 P2) ui_s (by rw [e9]; exact h283) (by omega) (by have a1 : dpM 2 0 = 76 := rfl; have a2 : dpM 5 0 = 80 := rfl; split <;> omega) hK'
    clear go
    refine ⟨fun z => ?_, fun z => ?_⟩
    · have e : ¬ rd = 0 := fun y => z (by rw [y]; rfl)
      rw [if_neg e] at go2
      exact go2 _ (fun I' hO => tl I' hO)
    · have e : rd = 0 := by
        rcases h01 with y | y
        · exact y
        · exact absurd (by rw [y]; decide) z
      rw [if_pos e] at go2
      exact go2 _ (fun I' hO => tl I' hO)
  · have hF' : FtM (ui J 704 0 15 (nI rd)) x.1 x.2 := FtM_15 hF
    have G := (G1.tr (frN_G hN)).tr (frG_15 (I := J) (x := nI rd))
    exact ⟨fun _ => c_M_truthF (by omega) hF' (bad _ x hF' G er), fun _ => c_M_sumF (by omega) hF' (bad _ x hF' G er)⟩
theorem c_M_closes {K : MI → ML → Prop} (hd : 8 ≤ d) (hW : WF R) (hP : PsM I B n p) (hD : DrM (I 709 0) R mu m) (hm : m ≤ p) (h : ∀ I', rsM B n I p mu (clsO B n R p) I' → K I' L) : CV d m_M_closes [vR 704 0] I L K := by
  generalize ho : clsO B n R p = o at h
  unfold clsO at ho
  refine toCV (n := 7) hd (r_M_closes_0 (eatM (j := 30) (by omega) hP (by omega) (by omega) ho (fun J1 P1 F1 l1 k1 => ⟨rfl, h _ ?_⟩) (fun J x hF hR er => ⟨rfl, h _ (by rw [er]; exact ⟨FtM_9 hF, (frN_G hR).tr frG_9⟩)⟩)))
  rw [← k1]
  have c1 : J1 709 0 = I 709 0 := F1.1 709 0 (by omega)
  obtain ⟨⟨h2, h3, h1, h0, hcs, hws⟩, hT, hU, h283, h80, h6⟩ := hD
  have vv : ∀ z j, j ≠ 0 → ui J1 709 0 0 z 709 0 j = I 709 0 j := fun z j y => by rw [ui_k y, c1]
  rw [c1, h0]
  refine ⟨PsM_9 P1, (frN_G F1).tr frG_9, by show p ≤ (tkn B n p).2.2.1; omega, WF_N hW, m, by show m ≤ (tkn B n p).2.2.1; omega, ⟨by rw [vv _ _ (by omega)]; exact h2, by rw [vv _ _ (by omega)]; exact h3, by rw [vv _ _ (by omega)]; exact h1, by rw [ui_s]; rfl, fun c hc => ?_, fun w hw => ?_⟩, lawE_k hT (vv _ _ (by omega)) (vv _ _ (by omega)) (vv _ _ (by omega)) (fun q _ => vv _ _ (by omega)) (Nat.le_refl _), lawE_k hU (vv _ _ (by omega)) (vv _ _ (by omega)) (vv _ _ (by omega)) (fun q _ => vv _ _ (by omega)) (Nat.le_refl _), by rw [vv _ _ (by omega)]; exact h283, by rw [vv _ _ (by omega)]; exact h80, fun j y1 y2 y3 => by rw [vv _ _ (by omega)]; exact h6 j y1 y2 y3⟩
  · rw [vv _ _ (by omega), vv _ _ (by omega)]; exact hcs c hc
  · rw [vv _ _ (by omega), vv _ _ (by omega), vv _ _ (by omega), vv _ _ (by omega)]; exact hws w hw
theorem c_M_closesF {k pl : Nat} {K : MI → ML → Prop} (hd : 3 ≤ d) (hF : FtM I k pl) (h : ∀ I', FtM I' k pl → frG I I' → K I' L) : CV d m_M_closes [vR 704 0] I L K := toCV (n := 2) hd (r_M_closes_0 (eat_F (by omega) hF ⟨rfl, h _ (FtM_9 hF) frG_9⟩))
theorem c_M_readLine {K : MI → ML → Prop} (hd : 83 ≤ d) (hW : WF R) (hP : PsM I B n p) (hD : DrM (I 709 0) R mu m) (hm : m ≤ p) (h : ∀ I', rsM B n I p mu (lineO B n R p) I' → K I' L) : CV d m_M_readLine [vR 704 0] I L K := by
  unfold lineO at h
  refine toCV (n := 82) hd (r_M_readLine_0 ⟨fun _ => ?_, fun z => absurd hP.2.2.2 z⟩)
  refine c_M_is (j := 3) (by omega) hP (by omega) (fun e => ⟨fun z => absurd z (by decide), fun _ => ?_⟩) (fun e => ⟨fun _ => ?_, fun z => absurd rfl z⟩)
  · rw [if_pos e] at h
    exact c_M_readCoach (by omega) hW hP e hD hm (fun I' hO => ⟨rfl, h I' hO⟩)
  rw [if_neg e] at h
  refine c_M_is (j := 6) (by omega) hP (by omega) (fun e => ⟨fun z => absurd z (by decide), fun _ => ?_⟩) (fun e => ⟨fun _ => ?_, fun z => absurd rfl z⟩)
  · rw [if_pos e] at h
    exact c_M_readWait (by omega) hW hP e hD hm (fun I' hO => ⟨rfl, h I' hO⟩)
  rw [if_neg e] at h
  refine c_M_is (j := 7) (by omega) hP (by omega) (fun e => ⟨fun z => absurd z (by decide), fun _ => ?_⟩) (fun e => ⟨fun _ => ?_, fun z => absurd rfl z⟩)
  · rw [if_pos e] at h
    exact c_M_readLaw (rd := 0) (by omega) (by omega) hW hP e hD hm (fun I' hO => ⟨rfl, h I' hO⟩)
  rw [if_neg e] at h
  refine c_M_is (j := 9) (by omega) hP (by omega) (fun e => ⟨fun z => absurd z (by decide), fun _ => ?_⟩) (fun e => ⟨fun _ => ?_, fun z => absurd rfl z⟩)
  · rw [if_pos e] at h
    exact c_M_readLaw (rd := 1) (by omega) (by omega) hW hP e hD hm (fun I' hO => ⟨rfl, h I' hO⟩)
  rw [if_neg e] at h
  exact c_M_fails (w := 2) (by omega) hP (by omega) (by omega) (fun J hF hR => ⟨rfl, h J ⟨hF, frN_G hR⟩⟩)
end LineM2

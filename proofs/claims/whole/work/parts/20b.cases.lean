/-! the law, case by case: calls that leave road, trays, tape and images as they are (printed by wip/whole/gen/cases.py) -/
section Cs
variable {xs : Nat → Int32} {Ls d : Nat} {I : MI} {L : ML} {R : RD} {s : SA} {P : List SA} {T : Nat → TA} {t : Nat → Int32} {N : Nat} {M : Nat → IA} {x : Int32} {Q : QT}
theorem l_coach (hd : 84 ≤ d) (h : LI xs Ls I L R s P T t N M) (hv : V5 x (I 4003 0 0).toNatClampNeg) (hk : KL d Ls xs Q x) : XX (d + 1) m_Lw_law Q 321 [vR 4002 0, vR 0 0, vR 704 0, vI x] [] I L := by
  obtain ⟨⟨c1, rg, tc, tp, im⟩, ⟨c2, tm, tq, iq⟩, ⟨hO, tO, iO⟩, e2, e3, e4, e5⟩ := id h
  exact r_Lw_law_321 ⟨hv.1, hv.2.1, w_coach (by omega) hO c1 ⟨hv.1, hv.2.1, m_coach (by omega) hO c2 (fin hk (LI_0 h) rfl)⟩⟩
theorem l_count (hd : 84 ≤ d) (h : LI xs Ls I L R s P T t N M) (hv : V5 x (I 4003 0 0).toNatClampNeg) (hk : KL d Ls xs Q x) : XX (d + 1) m_Lw_law Q 1404 [vR 4002 0, vR 0 0, vR 704 0, vI x] [] I L := by
  obtain ⟨⟨c1, rg, tc, tp, im⟩, ⟨c2, tm, tq, iq⟩, ⟨hO, tO, iO⟩, e2, e3, e4, e5⟩ := id h
  exact r_Lw_law_1404 ⟨hv.1, w_count (by omega) c1 ⟨hv.1, m_count (by omega) hO c2 (fin hk (LI_0 h) (by rw [tp.1, tq.1]))⟩⟩
theorem l_fault (hd : 84 ≤ d) (h : LI xs Ls I L R s P T t N M) (hv : V5 x (I 4003 0 0).toNatClampNeg) (hk : KL d Ls xs Q x) : XX (d + 1) m_Lw_law Q 298 [vR 4002 0, vR 0 0, vR 704 0, vI x] [] I L := by
  obtain ⟨⟨c1, rg, tc, tp, im⟩, ⟨c2, tm, tq, iq⟩, ⟨hO, tO, iO⟩, e2, e3, e4, e5⟩ := id h
  exact r_Lw_law_298 ⟨hv.1, w_fault (by omega) ⟨hv.1, m_fault (by omega) (fin hk (LI_0 h) (by rw [e2, e3]))⟩⟩
theorem l_rings (hd : 84 ≤ d) (h : LI xs Ls I L R s P T t N M) (hv : V5 x (I 4003 0 0).toNatClampNeg) (hk : KL d Ls xs Q x) : XX (d + 1) m_Lw_law Q 782 [vR 4002 0, vR 0 0, vR 704 0, vI x] [] I L := by
  obtain ⟨⟨c1, rg, tc, tp, im⟩, ⟨c2, tm, tq, iq⟩, ⟨hO, tO, iO⟩, e2, e3, e4, e5⟩ := id h
  obtain ⟨mm, hm, em⟩ := hO.2.1.1.2
  exact r_Lw_law_782 (w_rings (by omega) rg (m_rings (by omega) hO c2 em hm (fun I2 d2 f2 => fin hk (LI_on h c1 Same.rf d2 f2 oL_rf hO) rfl)))
theorem l_by (hd : 84 ≤ d) (h : LI xs Ls I L R s P T t N M) (hv : V5 x (I 4003 0 0).toNatClampNeg) (hk : KL d Ls xs Q x) : XX (d + 1) m_Lw_law Q 387 [vR 4002 0, vR 0 0, vR 704 0, vI x] [] I L := by
  obtain ⟨⟨c1, rg, tc, tp, im⟩, ⟨c2, tm, tq, iq⟩, ⟨hO, tO, iO⟩, e2, e3, e4, e5⟩ := id h
  exact r_Lw_law_387 ⟨hv.1, hv.2.1, w_by (by omega) hO c1 
    (h1 := fun x0 x1 I1 d1 s1 => by rw [k3 (cSC s1), k2 (cSC s1)]; exact ⟨hv.1, hv.2.1, m_by (by omega) hO (k7 (cSC s1) c2)  (h1 := fun y0 y1 I2 d2 f2 => fin hk (LI_on h d1 (cSC s1) d2 f2 oL_rf hO) rfl) (h2 := fun y0 => absurd x0 y0) (h3 := fun y0 y1 => absurd x1 y1)⟩)
    (h2 := fun x0 => ⟨hv.1, hv.2.1, m_by (by omega) hO c2  (h1 := fun y0 y1 _ _ _ => absurd y0 x0) (h2 := fun y0 => fin hk (LI_0 h) rfl) (h3 := fun y0 y1 => absurd y0 x0)⟩)
    (h3 := fun x0 x1 => ⟨hv.1, hv.2.1, m_by (by omega) hO c2  (h1 := fun y0 y1 _ _ _ => absurd y1 x1) (h2 := fun y0 => absurd x0 y0) (h3 := fun y0 y1 => fin hk (LI_0 h) rfl)⟩)⟩
theorem l_forWhich (hd : 84 ≤ d) (h : LI xs Ls I L R s P T t N M) (hv : V5 x (I 4003 0 0).toNatClampNeg) (hk : KL d Ls xs Q x) : XX (d + 1) m_Lw_law Q 420 [vR 4002 0, vR 0 0, vR 704 0, vI x] [] I L := by
  obtain ⟨⟨c1, rg, tc, tp, im⟩, ⟨c2, tm, tq, iq⟩, ⟨hO, tO, iO⟩, e2, e3, e4, e5⟩ := id h
  exact r_Lw_law_420 ⟨hv.1, hv.2.1, w_forWhich (by omega) hO c1 
    (h1 := fun x0 x1 I1 d1 s1 => by rw [k3 (cSC s1), k2 (cSC s1)]; exact ⟨hv.1, hv.2.1, m_forWhich (by omega) hO (k7 (cSC s1) c2)  (h1 := fun y0 y1 I2 d2 f2 => fin hk (LI_on h d1 (cSC s1) d2 f2 oL_rf hO) rfl) (h2 := fun y0 => absurd x0 y0) (h3 := fun y0 y1 => absurd x1 y1)⟩)
    (h2 := fun x0 => ⟨hv.1, hv.2.1, m_forWhich (by omega) hO c2  (h1 := fun y0 y1 _ _ _ => absurd y0 x0) (h2 := fun y0 => fin hk (LI_0 h) rfl) (h3 := fun y0 y1 => absurd y0 x0)⟩)
    (h3 := fun x0 x1 => ⟨hv.1, hv.2.1, m_forWhich (by omega) hO c2  (h1 := fun y0 y1 _ _ _ => absurd y1 x1) (h2 := fun y0 => absurd x0 y0) (h3 := fun y0 y1 => fin hk (LI_0 h) rfl)⟩)⟩
theorem l_late (hd : 84 ≤ d) (h : LI xs Ls I L R s P T t N M) (hv : V5 x (I 4003 0 0).toNatClampNeg) (hk : KL d Ls xs Q x) : XX (d + 1) m_Lw_law Q 667 [vR 4002 0, vR 0 0, vR 704 0, vI x] [] I L := by
  obtain ⟨⟨c1, rg, tc, tp, im⟩, ⟨c2, tm, tq, iq⟩, ⟨hO, tO, iO⟩, e2, e3, e4, e5⟩ := id h
  exact r_Lw_law_667 ⟨hv.1, hv.2.1, w_late (by omega) hO c1 
    (h1 := fun x0 x1 I1 d1 s1 => by rw [k3 (cSC s1), k2 (cSC s1)]; exact ⟨hv.1, hv.2.1, m_late (by omega) hO (k7 (cSC s1) c2)  (h1 := fun y0 y1 I2 d2 f2 => fin hk (LI_on h d1 (cSC s1) d2 f2 oL_rf hO) rfl) (h2 := fun y0 => absurd x0 y0) (h3 := fun y0 y1 => absurd x1 y1)⟩)
    (h2 := fun x0 => ⟨hv.1, hv.2.1, m_late (by omega) hO c2  (h1 := fun y0 y1 _ _ _ => absurd y0 x0) (h2 := fun y0 => fin hk (LI_0 h) rfl) (h3 := fun y0 y1 => absurd y0 x0)⟩)
    (h3 := fun x0 x1 => ⟨hv.1, hv.2.1, m_late (by omega) hO c2  (h1 := fun y0 y1 _ _ _ => absurd y1 x1) (h2 := fun y0 => absurd x0 y0) (h3 := fun y0 y1 => fin hk (LI_0 h) rfl)⟩)⟩
theorem l_sets (hd : 84 ≤ d) (h : LI xs Ls I L R s P T t N M) (hv : V5 x (I 4003 0 0).toNatClampNeg) (hk : KL d Ls xs Q x) : XX (d + 1) m_Lw_law Q 700 [vR 4002 0, vR 0 0, vR 704 0, vI x] [] I L := by
  obtain ⟨⟨c1, rg, tc, tp, im⟩, ⟨c2, tm, tq, iq⟩, ⟨hO, tO, iO⟩, e2, e3, e4, e5⟩ := id h
  exact r_Lw_law_700 ⟨hv.1, hv.2.1, w_sets (by omega) hO c1 
    (h1 := fun x0 x1 I1 d1 s1 => by rw [k3 (cSC s1), k2 (cSC s1)]; exact ⟨hv.1, hv.2.1, m_sets (by omega) hO (k7 (cSC s1) c2)  (h1 := fun y0 y1 I2 d2 f2 => fin hk (LI_on h d1 (cSC s1) d2 f2 oL_rf hO) rfl) (h2 := fun y0 => absurd x0 y0) (h3 := fun y0 y1 => absurd x1 y1)⟩)
    (h2 := fun x0 => ⟨hv.1, hv.2.1, m_sets (by omega) hO c2  (h1 := fun y0 y1 _ _ _ => absurd y0 x0) (h2 := fun y0 => fin hk (LI_0 h) rfl) (h3 := fun y0 y1 => absurd y0 x0)⟩)
    (h3 := fun x0 x1 => ⟨hv.1, hv.2.1, m_sets (by omega) hO c2  (h1 := fun y0 y1 _ _ _ => absurd y1 x1) (h2 := fun y0 => absurd x0 y0) (h3 := fun y0 y1 => fin hk (LI_0 h) rfl)⟩)⟩
theorem l_waiting (hd : 84 ≤ d) (h : LI xs Ls I L R s P T t N M) (hv : V5 x (I 4003 0 0).toNatClampNeg) (hk : KL d Ls xs Q x) : XX (d + 1) m_Lw_law Q 354 [vR 4002 0, vR 0 0, vR 704 0, vI x] [] I L := by
  obtain ⟨⟨c1, rg, tc, tp, im⟩, ⟨c2, tm, tq, iq⟩, ⟨hO, tO, iO⟩, e2, e3, e4, e5⟩ := id h
  exact r_Lw_law_354 ⟨hv.1, hv.2.1, w_waiting (by omega) hO c1 
    (h := fun I1 d1 s1 => by rw [k3 (cSC s1), k2 (cSC s1)]; exact ⟨hv.1, hv.2.1, m_waiting (by omega) hO (k7 (cSC s1) c2)  (h := fun I2 d2 f2 => fin hk (LI_on h d1 (cSC s1) d2 f2 oL_rf hO) rfl)⟩)⟩
theorem l_calm (hd : 84 ≤ d) (h : LI xs Ls I L R s P T t N M) (hv : V5 x (I 4003 0 0).toNatClampNeg) (hk : KL d Ls xs Q x) : XX (d + 1) m_Lw_law Q 733 [vR 4002 0, vR 0 0, vR 704 0, vI x] [] I L := by
  obtain ⟨⟨c1, rg, tc, tp, im⟩, ⟨c2, tm, tq, iq⟩, ⟨hO, tO, iO⟩, e2, e3, e4, e5⟩ := id h
  exact r_Lw_law_733 (w_calm (by omega) hO c1 
    (h := fun I1 d1 s1 => m_calm (by omega) hO (k7 (cSC s1) c2)  (h := fun I2 d2 f2 => fin hk (LI_on h d1 (cSC s1) d2 f2 oL_rf hO) rfl)))
theorem l_soonest (hd : 84 ≤ d) (h : LI xs Ls I L R s P T t N M) (hv : V5 x (I 4003 0 0).toNatClampNeg) (hk : KL d Ls xs Q x) : XX (d + 1) m_Lw_law Q 976 [vR 4002 0, vR 0 0, vR 704 0, vI x] [] I L := by
  obtain ⟨⟨c1, rg, tc, tp, im⟩, ⟨c2, tm, tq, iq⟩, ⟨hO, tO, iO⟩, e2, e3, e4, e5⟩ := id h
  exact r_Lw_law_976 (w_soonest (by omega) hO c1 
    (h := fun I1 d1 s1 => m_soonest (by omega) hO (k7 (cSB s1) c2)  (h := fun I2 d2 f2 => fin hk (LI_on h d1 (cSB s1) d2 f2 oL_rf hO) rfl)))
theorem l_way (hd : 84 ≤ d) (h : LI xs Ls I L R s P T t N M) (hv : V5 x (I 4003 0 0).toNatClampNeg) (hk : KL d Ls xs Q x) : XX (d + 1) m_Lw_law Q 989 [vR 4002 0, vR 0 0, vR 704 0, vI x] [] I L := by
  obtain ⟨⟨c1, rg, tc, tp, im⟩, ⟨c2, tm, tq, iq⟩, ⟨hO, tO, iO⟩, e2, e3, e4, e5⟩ := id h
  exact r_Lw_law_989 ⟨hv.1, w_way (by omega) hO c1 
    (h := fun I1 d1 s1 => by rw [k3 (cSB s1), k2 (cSB s1)]; exact ⟨hv.1, m_way (by omega) hO (k7 (cSB s1) c2)  (h := fun I2 d2 f2 => fin hk (LI_on h d1 (cSB s1) d2 f2 oL_rf hO) rfl)⟩)⟩
theorem l_judge (hd : 84 ≤ d) (h : LI xs Ls I L R s P T t N M) (hv : V5 x (I 4003 0 0).toNatClampNeg) (hk : KL d Ls xs Q x) : XX (d + 1) m_Lw_law Q 578 [vR 4002 0, vR 0 0, vR 704 0, vI x] [] I L := by
  obtain ⟨⟨c1, rg, tc, tp, im⟩, ⟨c2, tm, tq, iq⟩, ⟨hO, tO, iO⟩, e2, e3, e4, e5⟩ := id h
  exact r_Lw_law_578 ⟨hv.1, hv.2.1, w_judge (by omega) hO c1 tc
    (h2 := fun x0 => ⟨hv.1, hv.2.1, m_judge (by omega) hO c2 tm (h2 := fun y0 => fin hk (LI_0 h) rfl) (h3 := fun y0 y1 y2 => absurd ⟨y0, y1⟩ x0) (h1 := fun v1 v2 v3 y0 y1 y2 _ _ _ => absurd ⟨y0, y1⟩ x0)⟩)
    (h3 := fun x0 x1 x2 => ⟨hv.1, hv.2.1, m_judge (by omega) hO c2 tm (h2 := fun y0 => absurd ⟨x0, x1⟩ y0) (h3 := fun y0 y1 y2 => fin hk (LI_0 h) rfl) (h1 := fun v1 v2 v3 y0 y1 y2 _ _ _ => (by rw [x2] at y2; cases y2))⟩)
    (h1 := fun u1 u2 u3 x0 x1 x2 I1 d1 s1 => by rw [k3 (cSC s1), k2 (cSC s1)]; exact ⟨hv.1, hv.2.1, m_judge (by omega) hO (k7 (cSC s1) c2) (tsM_S tm (sc_m (cSC s1) 742 0 (by omega)) (sc_m (cSC s1) 743 0 (by omega)) rfl) (h2 := fun y0 => absurd ⟨x0, x1⟩ y0) (h3 := fun y0 y1 y2 => (by rw [x2] at y2; cases y2)) (h1 := fun v1 v2 v3 y0 y1 y2 I2 d2 f2 => by rw [x2] at y2; cases y2; exact fin hk (LI_on h d1 (cSC s1) d2 f2 oL_rf hO) rfl)⟩)⟩
theorem l_slow (hd : 84 ≤ d) (h : LI xs Ls I L R s P T t N M) (hv : V5 x (I 4003 0 0).toNatClampNeg) (hk : KL d Ls xs Q x) : XX (d + 1) m_Lw_law Q 769 [vR 4002 0, vR 0 0, vR 704 0, vI x] [] I L := by
  obtain ⟨⟨c1, rg, tc, tp, im⟩, ⟨c2, tm, tq, iq⟩, ⟨hO, tO, iO⟩, e2, e3, e4, e5⟩ := id h
  obtain ⟨mm, hm, em⟩ := hO.2.1.1.2
  exact r_Lw_law_769 (w_slow (by omega) hO c1 rg em hm
    (h := fun z1 I1 w1 d1 s1 => m_slow (by omega) hO (k7 (cSC s1) c2) em hm (h := fun z2 I2 w2 d2 f2 => fin hk (LI_on h d1 (cSC s1) d2 f2 oL_rf hO) (whP_1 w1 w2))))
theorem l_period (hd : 84 ≤ d) (h : LI xs Ls I L R s P T t N M) (hv : V5 x (I 4003 0 0).toNatClampNeg) (hk : KL d Ls xs Q x) : XX (d + 1) m_Lw_law Q 795 [vR 4002 0, vR 0 0, vR 704 0, vI x] [] I L := by
  obtain ⟨⟨c1, rg, tc, tp, im⟩, ⟨c2, tm, tq, iq⟩, ⟨hO, tO, iO⟩, e2, e3, e4, e5⟩ := id h
  obtain ⟨mm, hm, em⟩ := hO.2.1.1.2
  exact r_Lw_law_795 (w_period (by omega) hO c1 rg em hm
    (h := fun z1 I1 w1 d1 s1 => m_period (by omega) hO (k7 (cSC s1) c2) em hm (h := fun z2 I2 w2 d2 f2 => fin hk (LI_on h d1 (cSC s1) d2 f2 oL_rf hO) (prP_1 hO.1 w1 w2))))
theorem l_leave (hd : 84 ≤ d) (h : LI xs Ls I L R s P T t N M) (hv : V5 x (I 4003 0 0).toNatClampNeg) (hk : KL d Ls xs Q x) : XX (d + 1) m_Lw_law Q 864 [vR 4002 0, vR 0 0, vR 704 0, vI x] [] I L := by
  obtain ⟨⟨c1, rg, tc, tp, im⟩, ⟨c2, tm, tq, iq⟩, ⟨hO, tO, iO⟩, e2, e3, e4, e5⟩ := id h
  obtain ⟨mm, hm, em⟩ := hO.2.1.1.2
  exact r_Lw_law_864 (w_leave (by omega) hO c1 rg em hm
    (h := fun z1 I1 w1 d1 s1 => m_leave (by omega) hO (k7 (cSC s1) c2) em hm (h := fun z2 I2 w2 d2 f2 => fin hk (LI_on h d1 (cSC s1) d2 f2 oL_rf hO) (lvP_1 w1 w2))))
theorem l_slowest (hd : 84 ≤ d) (h : LI xs Ls I L R s P T t N M) (hv : V5 x (I 4003 0 0).toNatClampNeg) (hk : KL d Ls xs Q x) : XX (d + 1) m_Lw_law Q 746 [vR 4002 0, vR 0 0, vR 704 0, vI x] [] I L := by
  obtain ⟨⟨c1, rg, tc, tp, im⟩, ⟨c2, tm, tq, iq⟩, ⟨hO, tO, iO⟩, e2, e3, e4, e5⟩ := id h
  obtain ⟨mm, hm, em⟩ := hO.2.1.1.2
  exact r_Lw_law_746 ⟨hv.1, w_slowest (by omega) hO c1 rg em hm
    (h2 := fun x0 => ⟨hv.1, m_slowest (by omega) hO c2 em hm (h2 := fun y0 => fin hk (LI_0 h) rfl) (h := fun y0 _ _ _ _ _ => absurd y0 x0)⟩)
    (h := fun x0 z1 I1 w1 d1 s1 => by rw [k3 (cSC s1), k2 (cSC s1)]; exact ⟨hv.1, m_slowest (by omega) hO (k7 (cSC s1) c2) em hm (h2 := fun y0 => absurd x0 y0) (h := fun y0 z2 I2 w2 d2 f2 => fin hk (LI_on h d1 (cSC s1) d2 f2 oL_rf hO) (swP_1 hO.1 w1 w2))⟩)⟩
theorem l_room (hd : 84 ≤ d) (h : LI xs Ls I L R s P T t N M) (hv : V5 x (I 4003 0 0).toNatClampNeg) (hk : KL d Ls xs Q x) : XX (d + 1) m_Lw_law Q 841 [vR 4002 0, vR 0 0, vR 704 0, vI x] [] I L := by
  obtain ⟨⟨c1, rg, tc, tp, im⟩, ⟨c2, tm, tq, iq⟩, ⟨hO, tO, iO⟩, e2, e3, e4, e5⟩ := id h
  obtain ⟨mm, hm, em⟩ := hO.2.1.1.2
  exact r_Lw_law_841 ⟨hv.1, w_room (by omega) hO c1 rg em hm
    (h2 := fun x0 => ⟨hv.1, m_room (by omega) hO c2 em hm (h2 := fun y0 => fin hk (LI_0 h) rfl) (h := fun y0 y1 _ _ _ _ _ => absurd ⟨y0, y1⟩ x0)⟩)
    (h := fun x0 x1 z1 I1 w1 d1 s1 => by rw [k3 (cSC s1), k2 (cSC s1)]; exact ⟨hv.1, m_room (by omega) hO (k7 (cSC s1) c2) em hm (h2 := fun y0 => absurd ⟨x0, x1⟩ y0) (h := fun y0 y1 z2 I2 w2 d2 f2 => fin hk (LI_on h d1 (cSC s1) d2 f2 oL_rf hO) (rmP_1 w1 w2))⟩)⟩
theorem l_hour (hd : 84 ≤ d) (h : LI xs Ls I L R s P T t N M) (hv : V5 x (I 4003 0 0).toNatClampNeg) (hk : KL d Ls xs Q x) : XX (d + 1) m_Lw_law Q 808 [vR 4002 0, vR 0 0, vR 704 0, vI x] [] I L := by
  obtain ⟨⟨c1, rg, tc, tp, im⟩, ⟨c2, tm, tq, iq⟩, ⟨hO, tO, iO⟩, e2, e3, e4, e5⟩ := id h
  obtain ⟨mm, hm, em⟩ := hO.2.1.1.2
  exact r_Lw_law_808 ⟨hv.1, hv.2.1, w_hour (by omega) hO c1 rg em hm
    (h2 := fun x0 => ⟨hv.1, hv.2.1, m_hour (by omega) hO c2 em hm (h2 := fun y0 => fin hk (LI_0 h) rfl) (h3 := fun y0 y1 => absurd y0 x0) (h := fun y0 y1 _ _ _ => absurd y0 x0)⟩)
    (h3 := fun x0 x1 => ⟨hv.1, hv.2.1, m_hour (by omega) hO c2 em hm (h2 := fun y0 => absurd x0 y0) (h3 := fun y0 y1 => fin hk (LI_0 h) rfl) (h := fun y0 y1 _ _ _ => absurd y1 x1)⟩)
    (h := fun x0 x1 I1 d1 r1 s1 => by rw [k3 (cSR s1), k2 (cSR s1)]; exact ⟨hv.1, hv.2.1, m_hour (by omega) hO (k7 (cSR s1) c2) em hm (h2 := fun y0 => absurd x0 y0) (h3 := fun y0 y1 => absurd x1 y1) (h := fun y0 y1 I2 d2 f2 => fin hk (LI_on h d1 (cSR s1) d2 f2 oL_rf hO) rfl)⟩)⟩
theorem l_leaves (hd : 84 ≤ d) (h : LI xs Ls I L R s P T t N M) (hv : V5 x (I 4003 0 0).toNatClampNeg) (hk : KL d Ls xs Q x) : XX (d + 1) m_Lw_law Q 877 [vR 4002 0, vR 0 0, vR 704 0, vI x] [] I L := by
  obtain ⟨⟨c1, rg, tc, tp, im⟩, ⟨c2, tm, tq, iq⟩, ⟨hO, tO, iO⟩, e2, e3, e4, e5⟩ := id h
  obtain ⟨mm, hm, em⟩ := hO.2.1.1.2
  exact r_Lw_law_877 ⟨hv.1, hv.2.1, w_leaves (by omega) hO c1 rg em hm
    (h2 := fun x0 => ⟨hv.1, hv.2.1, m_leaves (by omega) hO c2 em hm (h2 := fun y0 => fin hk (LI_0 h) rfl) (h3 := fun y0 y1 => absurd y0 x0) (h := fun y0 y1 _ _ _ _ _ => absurd y0 x0)⟩)
    (h3 := fun x0 x1 => ⟨hv.1, hv.2.1, m_leaves (by omega) hO c2 em hm (h2 := fun y0 => absurd x0 y0) (h3 := fun y0 y1 => fin hk (LI_0 h) rfl) (h := fun y0 y1 _ _ _ _ _ => absurd y1 x1)⟩)
    (h := fun x0 x1 b1 w1 I1 d1 r1 s1 => by rw [k3 (cSR s1), k2 (cSR s1)]; exact ⟨hv.1, hv.2.1, m_leaves (by omega) hO (k7 (cSR s1) c2) em hm (h2 := fun y0 => absurd x0 y0) (h3 := fun y0 y1 => absurd x1 y1) (h := fun y0 y1 b2 w2 I2 d2 f2 => by cases bsP_1 w1 w2; exact fin hk (LI_on h d1 (cSR s1) d2 f2 oL_rf hO) rfl)⟩)⟩
theorem l_spread (hd : 84 ≤ d) (h : LI xs Ls I L R s P T t N M) (hv : V5 x (I 4003 0 0).toNatClampNeg) (hk : KL d Ls xs Q x) : XX (d + 1) m_Lw_law Q 910 [vR 4002 0, vR 0 0, vR 704 0, vI x] [] I L := by
  obtain ⟨⟨c1, rg, tc, tp, im⟩, ⟨c2, tm, tq, iq⟩, ⟨hO, tO, iO⟩, e2, e3, e4, e5⟩ := id h
  exact r_Lw_law_910 ⟨hv.1, hv.2.1, hv.2.2.1, w_spread (by omega) hO c1 
    (h2 := fun x0 => ⟨hv.1, hv.2.1, hv.2.2.1, m_spread (by omega) hO c2  (h2 := fun y0 => fin hk (LI_0 h) rfl) (h3 := fun y0 y1 y2 => absurd ⟨y0, y1⟩ x0) (h1 := fun y0 y1 y2 y3 _ _ _ => absurd ⟨y0, y1⟩ x0)⟩)
    (h3 := fun x0 x1 x2 => ⟨hv.1, hv.2.1, hv.2.2.1, m_spread (by omega) hO c2  (h2 := fun y0 => absurd ⟨x0, x1⟩ y0) (h3 := fun y0 y1 y2 => fin hk (LI_0 h) rfl) (h1 := fun y0 y1 y2 y3 _ _ _ => absurd ⟨y2, y3⟩ x2)⟩)
    (h1 := fun x0 x1 x2 x3 I1 d1 s1 => by rw [k3 (cSC s1), k2 (cSC s1)]; exact ⟨hv.1, hv.2.1, hv.2.2.1, m_spread (by omega) hO (k7 (cSC s1) c2)  (h2 := fun y0 => absurd ⟨x0, x1⟩ y0) (h3 := fun y0 y1 y2 => absurd ⟨x2, x3⟩ y2) (h1 := fun y0 y1 y2 y3 I2 d2 f2 => fin hk (LI_on h d1 (cSC s1) d2 f2 oL_rf hO) rfl)⟩)⟩
theorem l_leeway (hd : 84 ≤ d) (h : LI xs Ls I L R s P T t N M) (hv : V5 x (I 4003 0 0).toNatClampNeg) (hk : KL d Ls xs Q x) : XX (d + 1) m_Lw_law Q 953 [vR 4002 0, vR 0 0, vR 704 0, vI x] [] I L := by
  obtain ⟨⟨c1, rg, tc, tp, im⟩, ⟨c2, tm, tq, iq⟩, ⟨hO, tO, iO⟩, e2, e3, e4, e5⟩ := id h
  exact r_Lw_law_953 ⟨hv.1, w_leeway (by omega) hO c1 
    (h2 := fun x0 => ⟨hv.1, m_leeway (by omega) hO c2  (h2 := fun y0 => fin hk (LI_0 h) rfl) (h1 := fun y0 _ _ _ => absurd y0 x0)⟩)
    (h1 := fun x0 I1 d1 s1 => by rw [k3 (cSC s1), k2 (cSC s1)]; exact ⟨hv.1, m_leeway (by omega) hO (k7 (cSC s1) c2)  (h2 := fun y0 => absurd x0 y0) (h1 := fun y0 I2 d2 f2 => fin hk (LI_on h d1 (cSC s1) d2 f2 oL_rf hO) rfl)⟩)⟩
theorem l_rows (hd : 84 ≤ d) (h : LI xs Ls I L R s P T t N M) (hv : V5 x (I 4003 0 0).toNatClampNeg) (hk : KL d Ls xs Q x) : XX (d + 1) m_Lw_law Q 1012 [vR 4002 0, vR 0 0, vR 704 0, vI x] [] I L := by
  obtain ⟨⟨c1, rg, tc, tp, im⟩, ⟨c2, tm, tq, iq⟩, ⟨hO, tO, iO⟩, e2, e3, e4, e5⟩ := id h
  exact r_Lw_law_1012 ⟨hv.1, hv.2.1, w_rows (by omega) hO c1 
    (h2 := fun x0 => ⟨hv.1, hv.2.1, m_rows (by omega) hO c2  (h2 := fun y0 => fin hk (LI_0 h) rfl) (h3 := fun y0 y1 => absurd y0 x0) (h1 := fun y0 y1 y2 _ _ _ => absurd y0 x0)⟩)
    (h3 := fun x0 x1 => ⟨hv.1, hv.2.1, m_rows (by omega) hO c2  (h2 := fun y0 => absurd x0 y0) (h3 := fun y0 y1 => fin hk (LI_0 h) rfl) (h1 := fun y0 y1 y2 _ _ _ => absurd ⟨y1, y2⟩ x1)⟩)
    (h1 := fun x0 x1 x2 I1 d1 s1 => by rw [k3 (cSC s1), k2 (cSC s1)]; exact ⟨hv.1, hv.2.1, m_rows (by omega) hO (k7 (cSC s1) c2)  (h2 := fun y0 => absurd x0 y0) (h3 := fun y0 y1 => absurd ⟨x1, x2⟩ y1) (h1 := fun y0 y1 y2 I2 d2 f2 => fin hk (LI_on h d1 (cSC s1) d2 f2 oL_rf hO) rfl)⟩)⟩
theorem l_muds (hd : 84 ≤ d) (h : LI xs Ls I L R s P T t N M) (hv : V5 x (I 4003 0 0).toNatClampNeg) (hk : KL d Ls xs Q x) : XX (d + 1) m_Lw_law Q 1045 [vR 4002 0, vR 0 0, vR 704 0, vI x] [] I L := by
  obtain ⟨⟨c1, rg, tc, tp, im⟩, ⟨c2, tm, tq, iq⟩, ⟨hO, tO, iO⟩, e2, e3, e4, e5⟩ := id h
  exact r_Lw_law_1045 ⟨hv.1, hv.2.1, w_muds (by omega) hO c1 tc
    (h2 := fun x0 => ⟨hv.1, hv.2.1, m_muds (by omega) hO c2 tm (h2 := fun y0 => fin hk (LI_0 h) rfl) (h6 := fun y0 y1 y2 => absurd ⟨y0, y1⟩ x0) (h4 := fun v1 v2 v3 y0 y1 y2 y3 => absurd ⟨y0, y1⟩ x0) (h3 := fun v1 v2 v3 y0 y1 y2 y3 y4 y5 => absurd ⟨y0, y1⟩ x0) (h1 := fun v1 v2 v3 y0 y1 y2 y3 y4 y5 _ _ _ => absurd ⟨y0, y1⟩ x0)⟩)
    (h6 := fun x0 x1 x2 => ⟨hv.1, hv.2.1, m_muds (by omega) hO c2 tm (h2 := fun y0 => absurd ⟨x0, x1⟩ y0) (h6 := fun y0 y1 y2 => fin hk (LI_0 h) rfl) (h4 := fun v1 v2 v3 y0 y1 y2 y3 => (by rw [x2] at y2; cases y2)) (h3 := fun v1 v2 v3 y0 y1 y2 y3 y4 y5 => (by rw [x2] at y2; cases y2)) (h1 := fun v1 v2 v3 y0 y1 y2 y3 y4 y5 _ _ _ => (by rw [x2] at y2; cases y2))⟩)
    (h4 := fun u1 u2 u3 x0 x1 x2 x3 => ⟨hv.1, hv.2.1, m_muds (by omega) hO c2 tm (h2 := fun y0 => absurd ⟨x0, x1⟩ y0) (h6 := fun y0 y1 y2 => (by rw [x2] at y2; cases y2)) (h4 := fun v1 v2 v3 y0 y1 y2 y3 => fin hk (LI_0 h) rfl) (h3 := fun v1 v2 v3 y0 y1 y2 y3 y4 y5 => (by rw [x2] at y2; cases y2; exact absurd ⟨y3, y4⟩ x3)) (h1 := fun v1 v2 v3 y0 y1 y2 y3 y4 y5 _ _ _ => (by rw [x2] at y2; cases y2; exact absurd ⟨y3, y4⟩ x3))⟩)
    (h3 := fun u1 u2 u3 x0 x1 x2 x3 x4 x5 => ⟨hv.1, hv.2.1, m_muds (by omega) hO c2 tm (h2 := fun y0 => absurd ⟨x0, x1⟩ y0) (h6 := fun y0 y1 y2 => (by rw [x2] at y2; cases y2)) (h4 := fun v1 v2 v3 y0 y1 y2 y3 => (by rw [x2] at y2; cases y2; exact absurd ⟨x3, x4⟩ y3)) (h3 := fun v1 v2 v3 y0 y1 y2 y3 y4 y5 => fin hk (LI_0 h) rfl) (h1 := fun v1 v2 v3 y0 y1 y2 y3 y4 y5 _ _ _ => (by rw [x2] at y2; cases y2; exact absurd x5 y5))⟩)
    (h1 := fun u1 u2 u3 x0 x1 x2 x3 x4 x5 I1 d1 s1 => by rw [k3 (cSC s1), k2 (cSC s1)]; exact ⟨hv.1, hv.2.1, m_muds (by omega) hO (k7 (cSC s1) c2) (tsM_S tm (sc_m (cSC s1) 742 0 (by omega)) (sc_m (cSC s1) 743 0 (by omega)) rfl) (h2 := fun y0 => absurd ⟨x0, x1⟩ y0) (h6 := fun y0 y1 y2 => (by rw [x2] at y2; cases y2)) (h4 := fun v1 v2 v3 y0 y1 y2 y3 => (by rw [x2] at y2; cases y2; exact absurd ⟨x3, x4⟩ y3)) (h3 := fun v1 v2 v3 y0 y1 y2 y3 y4 y5 => (by rw [x2] at y2; cases y2; exact absurd y5 x5)) (h1 := fun v1 v2 v3 y0 y1 y2 y3 y4 y5 I2 d2 f2 => by rw [x2] at y2; cases y2; exact fin hk (LI_on h d1 (cSC s1) d2 f2 oL_rf hO) rfl)⟩)⟩
theorem l_look (hd : 84 ≤ d) (h : LI xs Ls I L R s P T t N M) (hv : V5 x (I 4003 0 0).toNatClampNeg) (hk : KL d Ls xs Q x) : XX (d + 1) m_Lw_law Q 1078 [vR 4002 0, vR 0 0, vR 704 0, vI x] [] I L := by
  obtain ⟨⟨c1, rg, tc, tp, im⟩, ⟨c2, tm, tq, iq⟩, ⟨hO, tO, iO⟩, e2, e3, e4, e5⟩ := id h
  exact r_Lw_law_1078 ⟨hv.1, hv.2.1, w_look (by omega) hO c1 tc
    (h2 := fun x0 => ⟨hv.1, hv.2.1, m_look (by omega) hO c2 tm (h2 := fun y0 => fin hk (LI_0 h) rfl) (h6 := fun y0 y1 y2 => absurd ⟨y0, y1⟩ x0) (h4 := fun v1 v2 v3 y0 y1 y2 y3 => absurd ⟨y0, y1⟩ x0) (h3 := fun v1 v2 v3 y0 y1 y2 y3 y4 y5 => absurd ⟨y0, y1⟩ x0) (h1 := fun v1 v2 v3 y0 y1 y2 y3 y4 y5 _ _ _ => absurd ⟨y0, y1⟩ x0)⟩)
    (h6 := fun x0 x1 x2 => ⟨hv.1, hv.2.1, m_look (by omega) hO c2 tm (h2 := fun y0 => absurd ⟨x0, x1⟩ y0) (h6 := fun y0 y1 y2 => fin hk (LI_0 h) rfl) (h4 := fun v1 v2 v3 y0 y1 y2 y3 => (by rw [x2] at y2; cases y2)) (h3 := fun v1 v2 v3 y0 y1 y2 y3 y4 y5 => (by rw [x2] at y2; cases y2)) (h1 := fun v1 v2 v3 y0 y1 y2 y3 y4 y5 _ _ _ => (by rw [x2] at y2; cases y2))⟩)
    (h4 := fun u1 u2 u3 x0 x1 x2 x3 => ⟨hv.1, hv.2.1, m_look (by omega) hO c2 tm (h2 := fun y0 => absurd ⟨x0, x1⟩ y0) (h6 := fun y0 y1 y2 => (by rw [x2] at y2; cases y2)) (h4 := fun v1 v2 v3 y0 y1 y2 y3 => fin hk (LI_0 h) rfl) (h3 := fun v1 v2 v3 y0 y1 y2 y3 y4 y5 => (by rw [x2] at y2; cases y2; exact absurd ⟨y3, y4⟩ x3)) (h1 := fun v1 v2 v3 y0 y1 y2 y3 y4 y5 _ _ _ => (by rw [x2] at y2; cases y2; exact absurd ⟨y3, y4⟩ x3))⟩)
    (h3 := fun u1 u2 u3 x0 x1 x2 x3 x4 x5 => ⟨hv.1, hv.2.1, m_look (by omega) hO c2 tm (h2 := fun y0 => absurd ⟨x0, x1⟩ y0) (h6 := fun y0 y1 y2 => (by rw [x2] at y2; cases y2)) (h4 := fun v1 v2 v3 y0 y1 y2 y3 => (by rw [x2] at y2; cases y2; exact absurd ⟨x3, x4⟩ y3)) (h3 := fun v1 v2 v3 y0 y1 y2 y3 y4 y5 => fin hk (LI_0 h) rfl) (h1 := fun v1 v2 v3 y0 y1 y2 y3 y4 y5 _ _ _ => (by rw [x2] at y2; cases y2; exact absurd x5 y5))⟩)
    (h1 := fun u1 u2 u3 x0 x1 x2 x3 x4 x5 I1 d1 s1 => by rw [k3 (cSL s1), k2 (cSL s1)]; exact ⟨hv.1, hv.2.1, m_look (by omega) hO (k7 (cSL s1) c2) (tsM_S tm (sc_m (cSL s1) 742 0 (by omega)) (sc_m (cSL s1) 743 0 (by omega)) rfl) (h2 := fun y0 => absurd ⟨x0, x1⟩ y0) (h6 := fun y0 y1 y2 => (by rw [x2] at y2; cases y2)) (h4 := fun v1 v2 v3 y0 y1 y2 y3 => (by rw [x2] at y2; cases y2; exact absurd ⟨x3, x4⟩ y3)) (h3 := fun v1 v2 v3 y0 y1 y2 y3 y4 y5 => (by rw [x2] at y2; cases y2; exact absurd y5 x5)) (h1 := fun v1 v2 v3 y0 y1 y2 y3 y4 y5 I2 d2 f2 => by rw [x2] at y2; cases y2; exact fin hk (LI_on h d1 (cSL s1) d2 f2 oL_rf hO) rfl)⟩)⟩
theorem l_chance (hd : 84 ≤ d) (h : LI xs Ls I L R s P T t N M) (hv : V5 x (I 4003 0 0).toNatClampNeg) (hk : KL d Ls xs Q x) : XX (d + 1) m_Lw_law Q 1111 [vR 4002 0, vR 0 0, vR 704 0, vI x] [] I L := by
  obtain ⟨⟨c1, rg, tc, tp, im⟩, ⟨c2, tm, tq, iq⟩, ⟨hO, tO, iO⟩, e2, e3, e4, e5⟩ := id h
  exact r_Lw_law_1111 ⟨hv.1, hv.2.1, hv.2.2.1, w_chance (by omega) hO c1 
    (h2 := fun x0 => ⟨hv.1, hv.2.1, hv.2.2.1, m_chance (by omega) hO c2  (h2 := fun y0 => fin hk (LI_0 h) rfl) (h3 := fun y0 y1 => absurd y0 x0) (h1 := fun y0 y1 _ _ _ _ _ => absurd y0 x0)⟩)
    (h3 := fun x0 x1 => ⟨hv.1, hv.2.1, hv.2.2.1, m_chance (by omega) hO c2  (h2 := fun y0 => absurd x0 y0) (h3 := fun y0 y1 => fin hk (LI_0 h) rfl) (h1 := fun y0 y1 _ _ _ _ _ => absurd y1 x1)⟩)
    (h1 := fun x0 x1 I1 d1 s1 => by rw [k3 (cSC s1), k2 (cSC s1)]; exact ⟨hv.1, hv.2.1, hv.2.2.1, m_chance (by omega) hO (k7 (cSC s1) c2)  (h2 := fun y0 => absurd x0 y0) (h3 := fun y0 y1 => absurd x1 y1) (h1 := fun y0 y1 I2 L2 d2 f2 l2 => fin hk (LI_on h d1 (cSC s1) d2 f2 l2 hO) rfl)⟩)⟩
theorem l_mean (hd : 84 ≤ d) (h : LI xs Ls I L R s P T t N M) (hv : V5 x (I 4003 0 0).toNatClampNeg) (hk : KL d Ls xs Q x) : XX (d + 1) m_Lw_law Q 1154 [vR 4002 0, vR 0 0, vR 704 0, vI x] [] I L := by
  obtain ⟨⟨c1, rg, tc, tp, im⟩, ⟨c2, tm, tq, iq⟩, ⟨hO, tO, iO⟩, e2, e3, e4, e5⟩ := id h
  exact r_Lw_law_1154 ⟨hv.1, hv.2.1, hv.2.2.1, hv.2.2.2.1, w_mean (by omega) hO c1 
    (h2 := fun x0 => ⟨hv.1, hv.2.1, hv.2.2.1, hv.2.2.2.1, m_mean (by omega) hO c2  (h2 := fun y0 => finJ hk (LI_0 h)) (h3 := fun y0 y1 y2 => absurd ⟨y0, y1⟩ x0) (h1 := fun y0 y1 y2 _ _ _ _ _ => absurd ⟨y0, y1⟩ x0)⟩)
    (h3 := fun x0 x1 x2 => ⟨hv.1, hv.2.1, hv.2.2.1, hv.2.2.2.1, m_mean (by omega) hO c2  (h2 := fun y0 => absurd ⟨x0, x1⟩ y0) (h3 := fun y0 y1 y2 => finJ hk (LI_0 h)) (h1 := fun y0 y1 y2 _ _ _ _ _ => absurd y2 x2)⟩)
    (h1 := fun x0 x1 x2 I1 d1 s1 => by rw [k3 (cSC s1), k2 (cSC s1)]; exact ⟨hv.1, hv.2.1, hv.2.2.1, hv.2.2.2.1, m_mean (by omega) hO (k7 (cSC s1) c2)  (h2 := fun y0 => absurd ⟨x0, x1⟩ y0) (h3 := fun y0 y1 y2 => absurd x2 y2) (h1 := fun y0 y1 y2 I2 L2 d2 f2 l2 => finJ hk (LI_on h d1 (cSC s1) d2 f2 l2 hO))⟩)⟩
end Cs

/-! the law, case by case: deeds, trays -/
section Ds
variable {xs : Nat → Int32} {Ls d : Nat} {I I1 I2 : MI} {L L1 L2 : ML} {R : RD} {s : SA} {P : List SA} {T T' : Nat → TA} {t : Nat → Int32} {N : Nat} {M : Nat → IA} {x : Int32} {Q : QT}
theorem l_round (hd : 84 ≤ d) (h : LI xs Ls I L R s P T t N M) (hv : V5 x (I 4003 0 0).toNatClampNeg) (hk : KL d Ls xs Q x) : XX (d + 1) m_Lw_law Q 453 [vR 4002 0, vR 0 0, vR 704 0, vI x] [] I L := by
  obtain ⟨⟨c1, rg, tc, tp, im⟩, ⟨c2, tm, tq, iq⟩, ⟨hO, tO, iO⟩, e2, e3, e4, e5⟩ := id h
  exact r_Lw_law_453 ⟨hv.1, w_round (by omega) hO c1
    (h1 := fun x0 x1 I1 d1 s1 => by rw [k3 (cSC s1), k2 (cSC s1)]; exact ⟨hv.1, m_round (by omega) hO (k7 (cSC s1) c2) (h1 := fun y0 y1 I2 d2 f2 => fin hk (LI_on h d1 (cSC s1) d2 f2 oL_rf (hO.push (trn_Ok hO.1 hO.2.1))) rfl) (h0 := fun y0 => absurd ⟨x0, x1⟩ y0)⟩)
    (h0 := fun x0 => ⟨hv.1, m_round (by omega) hO c2 (h1 := fun y0 y1 _ _ _ => absurd ⟨y0, y1⟩ x0) (h0 := fun _ => fin hk (LI_0 h) rfl)⟩)⟩
theorem nI_1u {a : Int32} {n m : Nat} (h1 : a = nI n) (h2 : a = nI m) (hn : n < 2 ^ 31) (hm : m < 2 ^ 31) : m = n := (nI_eq hm hn).mp (h2.symm.trans h1)
theorem l_rounds (hd : 84 ≤ d) (h : LI xs Ls I L R s P T t N M) (hv : V5 x (I 4003 0 0).toNatClampNeg) (hk : KL d Ls xs Q x) : XX (d + 1) m_Lw_law Q 476 [vR 4002 0, vR 0 0, vR 704 0, vI x] [] I L := by
  obtain ⟨⟨c1, rg, tc, tp, im⟩, ⟨c2, tm, tq, iq⟩, ⟨hO, tO, iO⟩, e2, e3, e4, e5⟩ := id h
  refine r_Lw_law_476 ⟨hv.1, w_rounds (by omega) hO c1 (h1 := fun n x0 x1 x2 I1 d1 s1 => ?_) (h0 := fun x0 => ⟨hv.1, m_rounds (by omega) hO c2 (h1 := fun n y0 y1 y2 _ _ _ => absurd ?_ x0) (h0 := fun _ => fin hk (LI_0 h) rfl)⟩)⟩
  · rw [k3 (cSC s1), k2 (cSC s1)]
    refine ⟨hv.1, m_rounds (by omega) hO (k7 (cSC s1) c2) (h1 := fun n' y0 y1 y2 I2 d2 f2 => ?_) (h0 := fun y0 => absurd ?_ y0)⟩
    · have e := nI_1u x2 y2 (by omega) (by omega)
      subst e
      exact fin hk (LI_on h d1 (cSC s1) d2 f2 oL_rf (hO.push (itN_Ok hO.1 hO.2.1 _))) rfl
    · rw [x2, nI_toInt (by omega)]
      omega
  · rw [y2, nI_toInt (by omega)]
    omega
theorem hld_Ok {c : Nat} {n : Int32} (h : OkS R s) (hc : c < rC R) (h0 : 0 ≤ n.toInt) (h9 : n.toInt ≤ 9) : OkS R (hldS s c n) := by
  obtain ⟨⟨a1, a2⟩, a3⟩ := h
  refine ⟨⟨fun k hk => ⟨(a1 k hk).1, (a1 k hk).2.1, ?_⟩, a2⟩, fun k k1 k2 => ⟨(a3 k k1 k2).1, (a3 k k1 k2).2.1, ?_⟩⟩
  · show rg (if k = c then n else s.2.2.1 k) 0 9
    by_cases e : k = c
    · rw [if_pos e]; exact ⟨h0, h9⟩
    · rw [if_neg e]; exact (a1 k hk).2.2
  · show (if k = c then n else s.2.2.1 k) = 0
    rw [if_neg (by omega)]
    exact (a3 k k1 k2).2.2
theorem l_hold (hd : 84 ≤ d) (h : LI xs Ls I L R s P T t N M) (hv : V5 x (I 4003 0 0).toNatClampNeg) (hk : KL d Ls xs Q x) : XX (d + 1) m_Lw_law Q 499 [vR 4002 0, vR 0 0, vR 704 0, vI x] [] I L := by
  obtain ⟨⟨c1, rg, tc, tp, im⟩, ⟨c2, tm, tq, iq⟩, ⟨hO, tO, iO⟩, e2, e3, e4, e5⟩ := id h
  have hC6 : rC R ≤ 6 := hO.1.1
  refine r_Lw_law_499 ⟨hv.1, hv.2.1, w_hold (by omega) hO c1 (h1 := fun n x0 x1 x2 x3 I1 d1 s1 => ?_) (h0 := fun x0 => ⟨hv.1, hv.2.1, m_hold (by omega) hO c2 (h1 := fun n y0 y1 y2 y3 _ _ _ => absurd ⟨?_, y2, y3⟩ x0) (h0 := fun _ => fin hk (LI_0 h) rfl)⟩)⟩
  · rw [k3 (cSC s1), k2 (cSC s1)]
    refine ⟨hv.1, hv.2.1, m_hold (by omega) hO (k7 (cSC s1) c2) (h1 := fun n' y0 y1 y2 y3 I2 d2 f2 => ?_) (h0 := fun y0 => absurd ⟨?_, x2, x3⟩ y0)⟩
    · have e := nI_1u x1 y1 (by omega) (by omega)
      subst e
      exact fin hk (LI_on h d1 (cSC s1) d2 f2 oL_rf (hO.push (hld_Ok hO.2.1 x0 x2 x3))) rfl
    · rw [x1, nI_toInt (by omega)]
      omega
  · rw [y1, nI_toInt (by omega)]
    omega
theorem l_mud (hd : 84 ≤ d) (h : LI xs Ls I L R s P T t N M) (hv : V5 x (I 4003 0 0).toNatClampNeg) (hk : KL d Ls xs Q x) : XX (d + 1) m_Lw_law Q 532 [vR 4002 0, vR 0 0, vR 704 0, vI x] [] I L := by
  obtain ⟨⟨c1, rg, tc, tp, im⟩, ⟨c2, tm, tq, iq⟩, ⟨hO, tO, iO⟩, e2, e3, e4, e5⟩ := id h
  refine r_Lw_law_532 ⟨hv.1, w_mud (by omega) c1 (h1 := fun n x0 x1 I1 d1 s1 => ?_) (h0 := fun x0 => ⟨hv.1, m_mud (by omega) hO c2 (h1 := fun n y0 y1 _ _ _ => absurd ?_ x0) (h0 := fun _ => fin hk (LI_0 h) rfl)⟩)⟩
  · rw [k3 (cSC s1), k2 (cSC s1)]
    refine ⟨hv.1, m_mud (by omega) hO (k7 (cSC s1) c2) (h1 := fun n' y0 y1 I2 d2 f2 => ?_) (h0 := fun y0 => absurd ?_ y0)⟩
    · exact fin hk (LI_on h d1 (cSC s1) d2 f2 oL_rf (hO.push (by rw [x1]; exact mud_Ok hO.2.1 x0))) rfl
    · rw [x1, nI_toInt (by omega)]
      omega
  · rw [y1, nI_toInt (by omega)]
    omega
theorem l_undo (hd : 84 ≤ d) (h : LI xs Ls I L R s P T t N M) (hv : V5 x (I 4003 0 0).toNatClampNeg) (hk : KL d Ls xs Q x) : XX (d + 1) m_Lw_law Q 555 [vR 4002 0, vR 0 0, vR 704 0, vI x] [] I L := by
  obtain ⟨⟨c1, rg, tc, tp, im⟩, ⟨c2, tm, tq, iq⟩, ⟨hO, tO, iO⟩, e2, e3, e4, e5⟩ := id h
  have hP : P.length ≤ 10 := c1.2.2.2.1
  refine r_Lw_law_555 ⟨hv.1, w_undo (by omega) c1 (h1 := fun n x0 x1 x2 I1 d1 s1 => ?_) (h0 := fun x0 => ⟨hv.1, m_undo (by omega) hO c2 (h1 := fun n y0 y1 y2 _ _ _ => absurd ?_ x0) (h0 := fun _ => fin hk (LI_0 h) rfl)⟩)⟩
  · rw [k3 (cSC s1), k2 (cSC s1)]
    refine ⟨hv.1, m_undo (by omega) hO (k7 (cSC s1) c2) (h1 := fun n' y0 y1 y2 I2 d2 f2 => ?_) (h0 := fun y0 => absurd ?_ y0)⟩
    · have e := nI_1u x2 y2 (by omega) (by omega)
      subst e
      exact fin hk (LI_on h d1 (cSC s1) d2 f2 oL_rf ⟨hO.1, hO.2.2 _ (List.getElem_mem _), fun p hp => hO.2.2 p (List.mem_of_mem_take hp)⟩) rfl
    · rw [x2, nI_toInt (by omega)]
      omega
  · rw [y2, nI_toInt (by omega)]
    omega
theorem psh_O {u : SA} {n : Nat} (hO : CoO R s P) (hu : OkS R u) : CoO R u (pshN P s n) := by
  unfold pshN
  by_cases hn : n = 0
  · rw [if_pos hn]
    exact ⟨hO.1, hu, hO.2.2⟩
  · rw [if_neg hn]
    exact hO.push hu
theorem l_perform (hd : 84 ≤ d) (h : LI xs Ls I L R s P T t N M) (hv : V5 x (I 4003 0 0).toNatClampNeg) (hk : KL d Ls xs Q x) : XX (d + 1) m_Lw_law Q 611 [vR 4002 0, vR 0 0, vR 704 0, vI x] [] I L := by
  obtain ⟨⟨c1, rg, tc, tp, im⟩, ⟨c2, tm, tq, iq⟩, ⟨hO, tO, iO⟩, e2, e3, e4, e5⟩ := id h
  exact r_Lw_law_611 ⟨hv.1, w_perform (by omega) hO c1 tc
    (h2 := fun x0 => ⟨hv.1, m_perform (by omega) hO c2 tm (h2 := fun _ => fin hk (LI_0 h) rfl) (h3 := fun y0 _ => absurd y0 x0) (h1 := fun _ _ _ y0 _ _ _ _ => absurd y0 x0)⟩)
    (h3 := fun x0 x1 => ⟨hv.1, m_perform (by omega) hO c2 tm (h2 := fun y0 => absurd x0 y0) (h3 := fun _ _ => fin hk (LI_0 h) rfl) (h1 := fun _ _ _ _ y1 _ _ _ => (by rw [x1] at y1; cases y1))⟩)
    (h1 := fun u1 u2 u3 x0 x1 I1 d1 s1 => by
      rw [k3 (cSC s1), k2 (cSC s1)]
      exact ⟨hv.1, m_perform (by omega) hO (k7 (cSC s1) c2) (tsM_S tm (sc_m (cSC s1) 742 0 (by omega)) (sc_m (cSC s1) 743 0 (by omega)) rfl) (h2 := fun y0 => absurd x0 y0) (h3 := fun _ y1 => (by rw [x1] at y1; cases y1))
        (h1 := fun v1 v2 v3 _ y1 I2 d2 f2 => by rw [x1] at y1; cases y1; exact fin hk (LI_on h d1 (cSC s1) d2 f2 oL_rf (psh_O hO (dlN_Ok hO.1 _ _ _ hO.2.1))) rfl)⟩)⟩
theorem l_week (hd : 84 ≤ d) (h : LI xs Ls I L R s P T t N M) (hv : V5 x (I 4003 0 0).toNatClampNeg) (hk : KL d Ls xs Q x) : XX (d + 1) m_Lw_law Q 634 [vR 4002 0, vR 0 0, vR 704 0, vI x] [] I L := by
  obtain ⟨⟨c1, rg, tc, tp, im⟩, ⟨c2, tm, tq, iq⟩, ⟨hO, tO, iO⟩, e2, e3, e4, e5⟩ := id h
  exact r_Lw_law_634 ⟨hv.1, hv.2.1, w_week (by omega) hO c1
    (h0 := fun x0 => ⟨hv.1, hv.2.1, m_week (by omega) hO c2 (h0 := fun _ => fin hk (LI_0 h) rfl) (h1 := fun y0 _ _ _ => absurd y0 x0)⟩)
    (h1 := fun x0 I1 d1 s1 => by
      rw [k3 (cSC s1), k2 (cSC s1)]
      exact ⟨hv.1, hv.2.1, m_week (by omega) hO (k7 (cSC s1) c2) (h0 := fun y0 => absurd x0 y0) (h1 := fun _ I2 d2 f2 => fin hk (LI_on h d1 (cSC s1) d2 f2 oL_rf (psh_O hO (wkN_Ok hO.1 _ _ _ _ hO.2.1))) rfl)⟩)⟩
/-! trays -/
theorem LI_T (h : LI xs Ls I L R s P T t N M) (t1 : tsC I1 L1 T') (f1 : tcF I L I1 L1) (t2 : tsM I2 L2 T') (f2 : tmF I1 L1 I2 L2) : LI xs Ls I2 L2 R s P T' t N M := by
  obtain ⟨⟨c1, r1, -, p1, m1⟩, ⟨c2, -, q1, n1⟩, ho, e2, e3, e4, e5⟩ := h
  obtain ⟨g1, g2⟩ := f1
  obtain ⟨j1, j2, j3, j4⟩ := f2
  have a : ∀ r b, r ≠ 640 → ¬ ((r = 704 ∨ r = 742 ∨ r = 743) ∧ b = 0) → I2 r b = I r b := fun r b x y => (j1 r b y).trans (g1 r b x)
  have a7 : ∀ j, j ≠ 0 → I2 704 0 j = I 704 0 j := fun j x => (j2 j x).trans (by rw [g1 704 0 (by omega)])
  have hS : Same (fun r b => r = 640 ∨ ((r = 704 ∨ r = 742 ∨ r = 743) ∧ b = 0)) I I2 := fun r b q => a r b (fun z => q (Or.inl z)) (fun z => q (Or.inr z))
  refine ⟨⟨?_, ?_, ?_, ?_, ?_⟩, ⟨?_, t2, ?_, ?_⟩, ho, ?_, ?_, ?_, ?_⟩
  · exact CoC_off c1 hS (fun r x y q => by omega) (fun r b x y _ q => by omega) (fun r x y q => by omega) (fun q => by omega)
  · exact RgA_same r1 hS (fun q => by omega) (fun q => by omega)
  · exact tsC_S t1 (fun i => j1 640 i (by omega)) (fun i => j4 641 i (by omega))
  · exact TpC_S p1 (by rw [a 64 0 (by omega) (by omega)]) (a 65 0 (by omega) (by omega))
  · exact fun i hi => ImC_S (m1 i hi) hS (fun q => by omega) (fun r x y q => by omega) (fun r x y q => by omega)
  · unfold CoM
    rw [a 706 0 (by omega) (by omega)]
    exact c2
  · exact TpM_S q1 (a7 5 (by omega)) (a 708 0 (by omega) (by omega))
  · exact fun i hi => ImM_S (n1 i hi) (by rw [a 707 0 (by omega) (by omega)]) (fun j _ => by rw [a 706 0 (by omega) (by omega)]) (ho.2.2 i hi)
  · rw [a 192 0 (by omega) (by omega), a7 13 (by omega)]; exact e2
  · rw [a 192 0 (by omega) (by omega), a7 14 (by omega)]; exact e3
  · rw [a 4002 0 (by omega) (by omega)]; exact e4
  · rw [a 4003 0 (by omega) (by omega)]; exact e5
theorem LI_0' (h : LI xs Ls I L R s P T t N M) : LI xs Ls (ui I 704 0 0 0) L R s P T t N M := LI_0 h
theorem l_numbers (hd : 84 ≤ d) (h : LI xs Ls I L R s P T t N M) (hv : V5 x (I 4003 0 0).toNatClampNeg) (hk : KL d Ls xs Q x) : XX (d + 1) m_Lw_law Q 1208 [vR 4002 0, vR 0 0, vR 704 0, vI x] [] I L := by
  obtain ⟨⟨c1, rg, tc, tp, im⟩, ⟨c2, tm, tq, iq⟩, ⟨hO, tO, iO⟩, e2, e3, e4, e5⟩ := id h
  exact r_Lw_law_1208 ⟨hv.1, hv.2.1, hv.2.2.1, w_numbers (by omega) tc
    (h2 := fun x0 => ⟨hv.1, hv.2.1, hv.2.2.1, m_numbers (by omega) tm (h2 := fun _ => fin hk (LI_0 h) rfl) (h3 := fun y0 y1 _ => absurd ⟨y0, y1⟩ x0) (h1 := fun y0 y1 _ _ _ _ _ _ => absurd ⟨y0, y1⟩ x0)⟩)
    (h3 := fun x0 x1 x2 => ⟨hv.1, hv.2.1, hv.2.2.1, m_numbers (by omega) tm (h2 := fun y0 => absurd ⟨x0, x1⟩ y0) (h3 := fun _ _ _ => fin hk (LI_0 h) rfl) (h1 := fun _ _ y2 y3 _ _ _ _ => absurd ⟨y2, y3⟩ x2)⟩)
    (h1 := fun x0 x1 x2 x3 I1 L1 t1 f1 => by
      rw [f1.1 4003 0 (by omega), f1.1 4002 0 (by omega)]
      exact ⟨hv.1, hv.2.1, hv.2.2.1, m_numbers (by omega) (tsM_S tm (f1.1 742 0 (by omega)) (f1.1 743 0 (by omega)) (f1.2 744 0 (by omega))) (h2 := fun y0 => absurd ⟨x0, x1⟩ y0) (h3 := fun _ _ y2 => absurd ⟨x2, x3⟩ y2)
        (h1 := fun _ _ _ _ I2 L2 t2 f2 => fin hk (LI_T h t1 f1 t2 f2) rfl)⟩)⟩
theorem l_write (hd : 84 ≤ d) (h : LI xs Ls I L R s P T t N M) (hv : V5 x (I 4003 0 0).toNatClampNeg) (hk : KL d Ls xs Q x) : XX (d + 1) m_Lw_law Q 1251 [vR 4002 0, vR 0 0, vR 704 0, vI x] [] I L := by
  obtain ⟨⟨c1, rg, tc, tp, im⟩, ⟨c2, tm, tq, iq⟩, ⟨hO, tO, iO⟩, e2, e3, e4, e5⟩ := id h
  exact r_Lw_law_1251 ⟨hv.1, hv.2.1, hv.2.2.1, hv.2.2.2.1, w_write (by omega) tc
    (h2 := fun x0 => ⟨hv.1, hv.2.1, hv.2.2.1, hv.2.2.2.1, m_write (by omega) tm (h2 := fun _ => finJ hk (LI_0 h)) (h6 := fun y0 _ => absurd y0 x0) (h7 := fun _ y0 _ _ => absurd y0 x0) (h1 := fun _ y0 _ _ _ _ _ _ _ => absurd y0 x0)⟩)
    (h6 := fun x0 x1 => ⟨hv.1, hv.2.1, hv.2.2.1, hv.2.2.2.1, m_write (by omega) tm (h2 := fun y0 => absurd x0 y0) (h6 := fun _ _ => finJ hk (LI_0 h)) (h7 := fun _ _ y1 _ => (by rw [x1] at y1; cases y1)) (h1 := fun _ _ y1 _ _ _ _ _ _ => (by rw [x1] at y1; cases y1))⟩)
    (h7 := fun u x0 x1 x2 => ⟨hv.1, hv.2.1, hv.2.2.1, hv.2.2.2.1, m_write (by omega) tm (h2 := fun y0 => absurd x0 y0) (h6 := fun _ y1 => (by rw [x1] at y1; cases y1)) (h7 := fun _ _ _ _ => finJ hk (LI_0 h)) (h1 := fun _ _ y1 y2 y3 _ _ _ _ => (by rw [x1] at y1; cases y1; exact absurd ⟨y2, y3⟩ x2))⟩)
    (h1 := fun u x0 x1 x2 x3 I1 L1 t1 f1 => by
      rw [f1.1 4003 0 (by omega), f1.1 4002 0 (by omega)]
      exact ⟨hv.1, hv.2.1, hv.2.2.1, hv.2.2.2.1, m_write (by omega) (tsM_S tm (f1.1 742 0 (by omega)) (f1.1 743 0 (by omega)) (f1.2 744 0 (by omega))) (h2 := fun y0 => absurd x0 y0) (h6 := fun _ y1 => (by rw [x1] at y1; cases y1)) (h7 := fun _ _ y1 y2 => (by rw [x1] at y1; cases y1; exact absurd ⟨x2, x3⟩ y2))
        (h1 := fun _ _ y1 _ _ I2 L2 t2 f2 => by rw [x1] at y1; cases y1; exact finJ hk (LI_T h t1 f1 t2 f2))⟩)⟩
theorem LI_TL (h : LI xs Ls I L R s P T t N M) (c1 : CoC I1 R s P) (s1 : Same SC I I1) (t1 : tsC I1 L1 T') (l1 : ∀ r b, r ≠ 641 → L1 r b = L r b) (c2 : CoM I2 R s P) (f2 : mFr I1 I2) (t2 : tsM I2 L2 T') (l2 : ∀ r b, r ≠ 744 → L2 r b = L1 r b) : LI xs Ls I2 L2 R s P T' t N M := by
  obtain ⟨⟨a1, a2, -, a3, a4⟩, ⟨b1, -, b2, b3⟩, ho, e⟩ := LI_on (L2 := L) h c1 s1 c2 f2 oL_rf h.2.2.1.1
  exact ⟨⟨a1, a2, tsC_S t1 (fun i => md_SM f2.1 640 i (by intro q; unfold SM at q; omega)) (fun i => l2 641 i (by omega)), a3, a4⟩, ⟨b1, t2, b2, b3⟩, ho, e⟩
theorem l_lists (hd : 84 ≤ d) (h : LI xs Ls I L R s P T t N M) (hv : V5 x (I 4003 0 0).toNatClampNeg) (hk : KL d Ls xs Q x) : XX (d + 1) m_Lw_law Q 1325 [vR 4002 0, vR 0 0, vR 704 0, vI x] [] I L := by
  obtain ⟨⟨c1, rg, tc, tp, im⟩, ⟨c2, tm, tq, iq⟩, ⟨hO, tO, iO⟩, e2, e3, e4, e5⟩ := id h
  exact r_Lw_law_1325 ⟨hv.1, hv.2.1, w_lists (by omega) hO c1 tc
    (h2 := fun x0 => ⟨hv.1, hv.2.1, m_lists (by omega) hO c2 tm (h2 := fun _ => fin hk (LI_0 h) rfl) (h6 := fun y0 y1 _ => absurd ⟨y0, y1⟩ x0) (h1 := fun _ y0 y1 _ _ _ _ _ _ _ => absurd ⟨y0, y1⟩ x0)⟩)
    (h6 := fun x0 x1 x2 => ⟨hv.1, hv.2.1, m_lists (by omega) hO c2 tm (h2 := fun y0 => absurd ⟨x0, x1⟩ y0) (h6 := fun _ _ _ => fin hk (LI_0 h) rfl) (h1 := fun _ _ _ y2 _ _ _ _ _ _ => (by rw [x2] at y2; cases y2))⟩)
    (h1 := fun u x0 x1 x2 I1 L1 d1 t1 s1 l1 => by
      rw [k3 (cSC s1), k2 (cSC s1)]
      exact ⟨hv.1, hv.2.1, m_lists (by omega) hO (k7 (cSC s1) c2) (tsM_S tm (sc_m (cSC s1) 742 0 (by omega)) (sc_m (cSC s1) 743 0 (by omega)) (l1 744 0 (by omega))) (h2 := fun y0 => absurd ⟨x0, x1⟩ y0) (h6 := fun _ _ y2 => (by rw [x2] at y2; cases y2))
        (h1 := fun _ _ _ y2 I2 L2 d2 t2 f2 l2 => by rw [x2] at y2; cases y2; exact fin hk (LI_TL h d1 (cSC s1) t1 l1 d2 f2 t2 l2) rfl)⟩)⟩
end Ds

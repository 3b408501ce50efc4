/-! spread, leeway -/
theorem or_dist (a b m : Int32) : (a ||| b) &&& m = (a &&& m) ||| (b &&& m) := by
  apply Int32.toBitVec_inj.mp
  simp only [Int32.toBitVec_and, Int32.toBitVec_or]
  ext i hi
  simp only [BitVec.getElem_and, BitVec.getElem_or]
  cases a.toBitVec[i] <;> cases b.toBitVec[i] <;> cases m.toBitVec[i] <;> rfl
theorem or_ab (x y : Int32) : (x ||| y) &&& y = y := by
  apply Int32.toBitVec_inj.mp
  simp only [Int32.toBitVec_and, Int32.toBitVec_or]
  ext i hi
  simp only [BitVec.getElem_and, BitVec.getElem_or]
  cases x.toBitVec[i] <;> cases y.toBitVec[i] <;> rfl
theorem or_com (x y : Int32) : x ||| y = y ||| x := by
  apply Int32.toBitVec_inj.mp
  simp only [Int32.toBitVec_or]
  ext i hi
  simp only [BitVec.getElem_or]
  cases x.toBitVec[i] <;> cases y.toBitVec[i] <;> rfl
theorem or_z {x y : Int32} : x ||| y = 0 ↔ x = 0 ∧ y = 0 := by
  refine ⟨fun h => ⟨?_, ?_⟩, fun h => by rw [h.1, h.2]; rfl⟩
  · have := or_ab y x
    rw [or_com, h, Int32.zero_and] at this
    exact this.symm
  · have := or_ab x y
    rw [h, Int32.zero_and] at this
    exact this.symm
/-- a plan of rounds with one held -/
def plS (m : Int32) (c : Nat) (x : Int32) : SA := hldS (st0 m) c x
/-- often, sum, last, who, behind n rounds -/
def spN (R : RD) (t : SA) : Nat → Int32 × Int32 × Int32 × Int32
  | 0 => (0, 0, 0, 0)
  | n + 1 => ((spN R t n).1 + cntW (whoN (itN R t (n + 1)).1 6), (spN R t n).2.1 + sumN (itN R t (n + 1)).1 6, if whoN (itN R t (n + 1)).1 6 = 0 then (spN R t n).2.2.1 else nI (n + 1), (spN R t n).2.2.2 ||| whoN (itN R t (n + 1)).1 6)
def spO (R : RD) (t : SA) (w : Int32) : Int32 := if w = 0 then (spN R t 99).1 else if w = 1 then (spN R t 99).2.1 else if w = 2 then (spN R t 99).2.2.1 else (spN R t 99).2.2.2
theorem itN_Zr {R : RD} {t : SA} (h : Zr R t) : ∀ n, Zr R (itN R t n)
  | 0 => h
  | n + 1 => trn_Zr (itN_Zr h n)
theorem plS_SR {R : RD} {m c n : Nat} (hm : m ≤ 9) (hn : n ≤ 99) : SR R (plS (nI m) c (nI n)) 99 := by
  refine ⟨fun k _ => ⟨rg_lit (n := 0) (by omega) (by omega) (by omega), rg_lit (n := 0) (by omega) (by omega) (by omega), ?_⟩, m, hm, rfl⟩
  show rg (if k = c then nI n else 0) 0 ((99 : Nat) : Int)
  by_cases q : k = c
  · rw [if_pos q]; exact rg_n (by omega) (by omega) (by omega)
  · rw [if_neg q]; exact rg_lit (n := 0) (by omega) (by omega) (by omega)
theorem plS_Zr {R : RD} {m : Int32} {c : Nat} {x : Int32} (hc : c < rC R) : Zr R (plS m c x) := fun k h1 _ => ⟨rfl, rfl, by show (if k = c then x else 0) = 0; rw [if_neg (by omega)]⟩
section Spr
variable {d : Nat} {I : MI} {L : ML} {R : RD} {s : SA} {P : List SA}
theorem c_W_planWithHeld {c : Nat} {x : Int32} {K : MI → ML → Prop} (hd : 3 ≤ d) (hO : CoO R s P) (hc : CoC I R s P) (hcl : c < rC R) (h : ∀ I', StA I' 2 (plS s.2.2.2.1 c x) → CoC I' R s P → Same cdS I I' → K I' L) : CV d m_W_planWithHeld [vR 0 0, vI (nI c), vI x] I L K := by
  have hC := hO.1.1
  refine toCV (n := 2) hd (r_W_planWithHeld_0 ?_)
  rw [hc.2.1.2.2.2.1]
  refine c_St_begin (by omega) (fun I1 hs1 hS1 => c_St_holdBy (by omega) (by omega) ⟨rfl, ?_⟩)
  have hS2 : Same (stS 2) I (ui I1 259 2 c x) := hS1.ui ⟨by simp, rfl⟩
  exact h _ (StA_hold hs1) (CoC_tu hc (i := 2) (by omega) (by omega) (GoA_st hc.2.2.1 hS2) (st_tu hS2)) (st_cd (by omega) hS2)
theorem w_spread {c n w : Int32} {K : Int32 → MI → ML → Prop} (hd : 6 ≤ d) (hO : CoO R s P) (hc : CoC I R s P) (h2 : ¬ (isC R c ∧ is3 w) → K (-2) I L) (h3 : isC R c → is3 w → ¬ (0 ≤ n.toInt ∧ n.toInt ≤ 99) → K (-3) I L) (h1 : isC R c → is3 w → 0 ≤ n.toInt → n.toInt ≤ 99 → ∀ I', CoC I' R s P → Same cdS I I' → K (spO R (plS s.2.2.2.1 c.toInt.toNat n) w) I' L) : CI d m_W_spread [vR 0 0, vI c, vI n, vI w] I L K := by
  have hR := hO.1
  have z0 : (0 : Int32).toInt = 0 := rfl
  have z3 : (3 : Int32).toInt = 3 := rfl
  have z99 : (99 : Int32).toInt = 99 := rfl
  obtain ⟨m, hm, em⟩ := hO.2.1.1.2
  refine toCI (n := 5) hd (r_W_spread_0 (c_W_isCoach (by omega) hR hc.1 (fun g1 g2 => ⟨fun q => absurd q (by decide), fun _ => ⟨fun q => ⟨_, rfl, h2 (fun z => ?_)⟩, fun q => ⟨fun q2 => ⟨fun q3 => ⟨_, rfl, h3 ⟨g1, g2⟩ ?_ (fun z => ?_)⟩, fun q3 => ⟨fun q4 => ?_, fun q4 => ⟨_, rfl, h3 ⟨g1, g2⟩ ?_ (fun z => ?_)⟩⟩⟩, fun q2 => ⟨_, rfl, h2 (fun z => ?_)⟩⟩⟩⟩) (fun g => ⟨fun _ => ⟨_, rfl, h2 (fun z => g z.1)⟩, fun q => absurd rfl q⟩)))
  · have := Int32.lt_iff_toInt_lt.mp q; have := z.2.1; omega
  · have a1 := Int32.le_iff_toInt_le.mp (Int32.not_lt.mp q); have a2 := Int32.le_iff_toInt_le.mp q2; exact ⟨by omega, by omega⟩
  · have := Int32.lt_iff_toInt_lt.mp q3; omega
  · have a1 := Int32.le_iff_toInt_le.mp (Int32.not_lt.mp q)
    have a2 := Int32.le_iff_toInt_le.mp q2
    have a3 := Int32.le_iff_toInt_le.mp (Int32.not_lt.mp q3)
    have a4 := Int32.le_iff_toInt_le.mp q4
    have fin := h1 ⟨g1, g2⟩ ⟨by omega, by omega⟩ (by omega) (by omega)
    have e1 := ge_nI g1
    have e2 := ge_nI (a := n) (by omega)
    have b1 : c.toInt.toNat < rC R := by omega
    have b2 : n.toInt.toNat ≤ 99 := by omega
    clear a1 a2 a3 a4 q q2 q3 q4 g1 g2 h1 h2 h3
    generalize c.toInt.toNat = c' at *
    generalize n.toInt.toNat = n' at *
    subst e1 e2
    refine c_W_planWithHeld (by omega) hO hc b1 (fun I1 hs1 hc1 hS1 => ?_)
    rw [em] at hs1 fin
    have key : ∀ (l k : Nat) (J : MI), k + l = 99 → StA J 2 (itN R (plS (nI m) c' (nI n')) k) → CoC J R s P → Same cdS I J → XX (5 + 1) m_W_spread (fun r I' L' => ∃ x, r = some (vI x) ∧ K x I' L') 54 [vR 0 0, vD, vD, vI w, vI (spN R (plS (nI m) c' (nI n')) k).1, vI (spN R (plS (nI m) c' (nI n')) k).2.1, vI (spN R (plS (nI m) c' (nI n')) k).2.2.1, vI (spN R (plS (nI m) c' (nI n')) k).2.2.2, vI (nI (k + 1))] [] J L := by
      intro l
      induction l with
      | zero =>
        intro k J hk hs hcJ hS
        have ek : k = 99 := by omega
        subst ek
        have := fin J hcJ hS
        unfold spO at this
        refine r_W_spread_54 ⟨fun _ => ⟨fun y => ⟨_, rfl, ?_⟩, fun y => ⟨_, rfl, ?_⟩, fun y => ⟨_, rfl, ?_⟩, fun y => ⟨_, rfl, ?_⟩⟩, fun q => absurd (by decide) q⟩
        · rw [if_pos y] at this; exact this
        · subst y; exact this
        · subst y; exact this
        · rw [if_neg y.1, if_neg y.2.1, if_neg y.2.2] at this; exact this
      | succ l ih =>
        intro k J hk hs hcJ hS
        refine r_W_spread_54 ⟨fun q => absurd q (nI_nlt (a := 99) (b := k + 1) (by omega) (by omega)), fun _ => ?_⟩
        refine c_Go_turn (hb := 99) (by omega) hR hcJ.1 hcJ.2.2.1 hs (by omega) (itN_SR hR (by omega) (plS_SR hm b2) k) (fun x J1 _ hs1 hG1 _ hS1 => ?_)
        have hcJ1 := CoC_tu hcJ (i := 2) (by omega) (by omega) hG1 hS1
        have hSJ := hS.tr (tu_cd (i := 2) (by omega) hS1)
        have eS : sumN (J1 257 2) 6 = sumN (itN R (plS (nI m) c' (nI n')) (k + 1)).1 6 := sumN_eq 6 (fun c hc => hs1.1 c hc)
        have eW : whoN (J1 257 2) 6 = whoN (itN R (plS (nI m) c' (nI n')) (k + 1)).1 6 := whoN_eq 6 (fun c hc => hs1.1 c hc)
        have w0 := who0 (f := J1 257 2) 6 (by omega)
        rw [eW] at w0
        have := ih (k + 1) J1 (by omega) hs1 hcJ1 hSJ
        simp only [spN] at this
        refine c_St_cnt (by omega) hs1 (c_St_lateSum (by omega) (c_St_isQuiet (by omega) (fun y => ⟨fun z => absurd z (by decide), fun _ => c_St_lateBits (by omega) ?_⟩) (fun y => ⟨fun _ => c_St_lateBits (by omega) ?_, fun z => absurd rfl z⟩)))
        · rw [if_pos (w0.mpr y)] at this
          rw [eS, eW, nI_1]
          exact this
        · have hn0 : ¬ whoN (itN R (plS (nI m) c' (nI n')) (k + 1)).1 6 = 0 := fun z => by
            obtain ⟨c, hc6, hpos⟩ := y
            exact w0.mp z c hc6 hpos
          rw [if_neg hn0] at this
          rw [eS, eW, nI_1]
          exact this
    exact key 99 0 I1 (by omega) hs1 hc1 hS1
  · have a1 := Int32.le_iff_toInt_le.mp (Int32.not_lt.mp q); have a2 := Int32.le_iff_toInt_le.mp q2; exact ⟨by omega, by omega⟩
  · have := Int32.lt_iff_toInt_lt.mp (Int32.not_le.mp q4); omega
  · have := Int32.lt_iff_toInt_lt.mp (Int32.not_le.mp q2); have := z.2.2; omega
theorem c_M_laysSpread {c n : Nat} {K : MI → ML → Prop} (hd : 6 ≤ d) (hO : CoO R s P) (hc : CoM I R s P) (hcl : c < rC R) (hn : n ≤ 99) (h : ∀ I', rwN I' R (plS s.2.2.2.1 c (nI n)) 99 → I' 706 0 = I 706 0 → I' 704 0 0 = I 704 0 0 → mF0 I I' → K I' L) : CV d m_M_laysSpread [vR 704 0, vI (nI c), vI (nI n)] I L K := by
  have hR := hO.1
  have hC := hR.1
  obtain ⟨m, hm, em⟩ := hO.2.1.1.2
  refine toCV (n := 5) hd (r_M_laysSpread_0 ?_)
  rw [hc.2.1.2.1]
  rw [em] at h ⊢
  refine c_M_laysTimes (by omega) hR hc.1 hm (fun I1 ht1 h21 ho1 hs1 => ?_)
  have third : ∀ (l k : Nat) (J : MI), k + l = 99 → rwN J R (plS (nI m) c (nI n)) k → MGr J R k (itN R (plS (nI m) c (nI n)) k) → J 706 0 = I 706 0 → J 704 0 0 = I 704 0 0 → mF0 I J → XX (5 + 1) m_M_laysSpread (fun r I' L' => r = none ∧ K I' L') 64 [vR 704 0, vD, vD, vI (nI k)] [] J L := by
    intro l
    induction l with
    | zero =>
      intro k J hk hr hg h6 ht hF
      have ek : k = 99 := by omega
      subst ek
      exact r_M_laysSpread_64 ⟨fun _ => ⟨rfl, h J hr h6 ht hF⟩, fun q => absurd (by decide) q⟩
    | succ l ih =>
      intro k J hk hr hg h6 ht hF
      refine r_M_laysSpread_64 ⟨fun q => absurd q (nle_c (m := 99) (by omega) (by omega)), fun _ => ?_⟩
      refine c_M_goes (r := k) (by omega) hR (by rw [h6]; exact hc.1) (by omega) hg ((itN_SR hR (show 99 ≤ 1000 by omega) (plS_SR hm hn) k).mono (by omega)) (fun J1 hg1 hlo ho hs => ?_)
      rw [nI_1]
      refine ih (k + 1) J1 (by omega) (fun j hj => ?_) hg1 ((gs_no hs (by decide)).trans h6) ((ho 0 (by decide) (by decide)).trans ht) (hF.tr (gs_F0 hs ho))
      by_cases e : j = k + 1
      · subst e; exact hg1.1
      · intro b hb
        have := hr j (by omega) b hb
        rw [hlo _ (by omega), hlo _ (by omega)]
        exact this
  have second : ∀ (l k : Nat) (J : MI), k + l = 6 → (∀ j, j < 12 → J 724 0 j = 0) → (∀ j, j < k → J 725 0 j = (if j = c then nI n else 0)) → mtA J R m (rW R) → J 704 0 21 = nI m → J 706 0 = I 706 0 → J 704 0 0 = I 704 0 0 → mF0 I J → XX (5 + 1) m_M_laysSpread (fun r I' L' => r = none ∧ K I' L') 34 [vR 704 0, vI (nI c), vI (nI n), vI (nI k)] [] J L := by
    intro l
    induction l with
    | zero =>
      intro k J hk hz hh ht j21 h6 h0 hF
      have ek : k = 6 := by omega
      subst ek
      have hg : MGr J R 0 (plS (nI m) c (nI n)) := ⟨fun b hb => ⟨hz _ (by omega), hz _ (by omega)⟩, fun b hb => hh b (by omega), m, hm, rfl, j21, ht⟩
      refine r_M_laysSpread_34 ⟨fun _ => third 99 0 J (by omega) (fun j hj => ?_) hg h6 h0 hF, fun q => absurd (by decide) q⟩
      have e : j = 0 := by omega
      subst e
      exact hg.1
    | succ l ih =>
      intro k J hk hz hh ht j21 h6 h0 hF
      have stp : ∀ x : Int32, x = (if k = c then nI n else 0) → XX (5 + 1) m_M_laysSpread (fun r I' L' => r = none ∧ K I' L') 34 [vR 704 0, vI (nI c), vI (nI n), vI (nI (k + 1))] [] (ui J 725 0 k x) L := by
        intro x hx
        refine ih (k + 1) _ (by omega) (fun j hj => by rw [ui_r (by decide)]; exact hz j hj) (fun j hj => ?_) (fun w hw => by rw [ui_r (by decide)]; exact ht w hw) (by rw [ui_r (by decide)]; exact j21) (by rw [ui_off (by decide)]; exact h6) (by rw [ui_r (by decide)]; exact h0) (hF.tr ⟨Same.rf.ui ⟨by omega, rfl⟩, fun j _ => by rw [ui_r (by decide)], fun j _ _ => by rw [ui_r (by decide)]⟩)
        by_cases e : j = k
        · subst e; rw [ui_s]; exact hx
        · rw [ui_k e]; exact hh j (by omega)
      refine r_M_laysSpread_34 ?_
      rw [cl_n (by omega), nI_1]
      refine ⟨fun q => absurd q (nle_c (m := 6) (by omega) (by omega)), fun _ => ⟨fun q => ⟨vin (by omega) (by omega), stp 0 ?_⟩, fun q => ⟨vin (by omega) (by omega), stp _ ?_⟩⟩⟩
      · rw [if_neg (fun z => q (by rw [z]))]
      · rw [if_pos ((nI_eq (by omega) (by omega)).mp (Classical.not_not.mp q))]
  have first : ∀ (l k : Nat) (J : MI), k + l = 12 → (∀ j, j < k → J 724 0 j = 0) → mtA J R m (rW R) → J 704 0 21 = nI m → J 706 0 = I 706 0 → J 704 0 0 = I 704 0 0 → mF0 I J → XX (5 + 1) m_M_laysSpread (fun r I' L' => r = none ∧ K I' L') 13 [vR 704 0, vI (nI c), vI (nI n), vI (nI k)] [] J L := by
    intro l
    induction l with
    | zero =>
      intro k J hk hz ht j21 h6 h0 hF
      have ek : k = 12 := by omega
      subst ek
      exact r_M_laysSpread_13 ⟨fun _ => second 6 0 J (by omega) hz (fun j hj => by omega) ht j21 h6 h0 hF, fun q => absurd (by decide) q⟩
    | succ l ih =>
      intro k J hk hz ht j21 h6 h0 hF
      refine r_M_laysSpread_13 ?_
      rw [cl_n (by omega), nI_1]
      refine ⟨fun q => absurd q (nle_c (m := 12) (by omega) (by omega)), fun _ => ⟨vin (by omega) (by omega), ih (k + 1) _ (by omega) (fun j hj => ?_) (fun w hw => by rw [ui_r (by decide)]; exact ht w hw) (by rw [ui_r (by decide)]; exact j21) (by rw [ui_off (by decide)]; exact h6) (by rw [ui_r (by decide)]; exact h0) (hF.tr ⟨Same.rf.ui ⟨by omega, rfl⟩, fun j _ => by rw [ui_r (by decide)], fun j _ _ => by rw [ui_r (by decide)]⟩)⟩⟩
      by_cases e : j = k
      · subst e; rw [ui_s]
      · rw [ui_k e]; exact hz j (by omega)
  exact first 12 0 I1 (by omega) (fun j hj => by omega) ht1 h21 (lt_no hs1 (by decide) (by decide) (by decide) (by decide)) (ho1 0 (by decide) (by decide)) (gr_F0 (lt_gr hs1) ho1)
theorem m_spread {c n w : Int32} {K : Int32 → MI → ML → Prop} (hd : 7 ≤ d) (hO : CoO R s P) (hc : CoM I R s P) (h2 : ¬ (isC R c ∧ is3 w) → K (-2) (ui I 704 0 0 0) L) (h3 : isC R c → is3 w → ¬ (0 ≤ n.toInt ∧ n.toInt ≤ 99) → K (-3) (ui I 704 0 0 0) L) (h1 : isC R c → is3 w → 0 ≤ n.toInt → n.toInt ≤ 99 → ∀ I', CoM I' R s P → mFr I I' → K (spO R (plS s.2.2.2.1 c.toInt.toNat n) w) I' L) : CI d m_M_spread [vR 704 0, vI c, vI n, vI w] I L K := by
  have hR := hO.1
  have hC := hR.1
  have ec := Int32.toInt_toInt64 c
  have en := Int32.toInt_toInt64 n
  have ew := Int32.toInt_toInt64 w
  have c0 : (0 : Int64).toInt = 0 := rfl
  have c3 : (3 : Int64).toInt = 3 := rfl
  have c99 : (99 : Int64).toInt = 99 := rfl
  have hc0 : CoM (ui I 704 0 0 0) R s P := CoM_cg hR hc t0_6
  refine toCI (n := 6) hd (r_M_spread_0 (c_M_isCoach (by omega) hR hc0.1 (fun g1 g2 => ⟨fun q => absurd q (by decide), fun _ => ?_⟩) (fun g => ⟨fun _ => ⟨_, rfl, h2 (fun z => g (by rw [ec]; exact z.1))⟩, fun q => absurd rfl q⟩)))
  rw [ec] at g1 g2
  refine c_M_within (by omega) (fun g3 g4 => ⟨fun _ => ?_, fun q => absurd (by decide) q⟩) (fun g => ⟨fun q => absurd rfl q, fun _ => ⟨_, rfl, h2 (fun z => g (by rw [ew, c0, c3]; exact z.2))⟩⟩)
  rw [ew, c0] at g3
  rw [ew, c3] at g4
  refine c_M_within (by omega) (fun g5 g6 => ⟨fun _ => ?_, fun q => absurd (by decide) q⟩) (fun g => ⟨fun q => absurd rfl q, fun _ => ⟨_, rfl, h3 ⟨g1, g2⟩ ⟨g3, g4⟩ (fun z => g (by rw [en, c0, c99]; exact z))⟩⟩)
  rw [en, c0] at g5
  rw [en, c99] at g6
  have fin := h1 ⟨g1, g2⟩ ⟨g3, g4⟩ g5 g6
  have e1 := ge_nI g1
  have e2 := ge_nI g5
  have b1 : c.toInt.toNat < rC R := by omega
  have b2 : n.toInt.toNat ≤ 99 := by omega
  clear g1 g2 g3 g4 g5 g6 h1 h2 h3 ec en ew
  generalize c.toInt.toNat = c' at *
  generalize n.toInt.toNat = n' at *
  subst e1 e2
  refine c_M_laysSpread (by omega) hO hc0 b1 b2 (fun I1 hrw h6 ht hF => ?_)
  have fin := fin I1 (CoM_cg hR hc0 h6) ⟨t0_F.tr hF, by rw [ht, ui_s]⟩
  have hzt : Zr R (plS s.2.2.2.1 c' (nI n')) := plS_Zr b1
  have h2' : I1 706 0 2 = nI (rC R) := by rw [h6]; exact hc0.1.1
  generalize plS s.2.2.2.1 c' (nI n') = t at *
  have key : ∀ (l k : Nat), k + l = 99 → XX (6 + 1) m_M_spread (fun r I' L' => ∃ x, r = some (vI x) ∧ K x I' L') 65 [vR 704 0, vD, vD, vI w, vI (spN R t k).1, vI (spN R t k).2.1, vI (spN R t k).2.2.1, vI (spN R t k).2.2.2, vI (nI (k + 1))] [] I1 L := by
    intro l
    induction l with
    | zero =>
      intro k hk
      have ek : k = 99 := by omega
      subst ek
      unfold spO at fin
      refine r_M_spread_65 ⟨fun _ => ⟨fun q0 => ⟨fun q1 => ⟨fun q2 => ⟨_, rfl, ?_⟩, fun q2 => ⟨_, rfl, ?_⟩⟩, fun q1 => ⟨_, rfl, ?_⟩⟩, fun q0 => ⟨_, rfl, ?_⟩⟩, fun q => absurd (by decide) q⟩
      · rw [if_neg q0, if_neg q1, if_neg q2] at fin; exact fin
      · rw [if_neg q0, if_neg q1, if_pos (Classical.not_not.mp q2)] at fin; exact fin
      · rw [if_neg q0, if_pos (Classical.not_not.mp q1)] at fin; exact fin
      · rw [if_pos (Classical.not_not.mp q0)] at fin; exact fin
    | succ l ih =>
      intro k hk
      have hrow := hrw (k + 1) (by omega)
      have hz := itN_Zr hzt (k + 1)
      have eW : whoN (fun b => I1 724 0 (6 * (k + 1 + 1) + b)) (rC R) = whoN (itN R t (k + 1)).1 6 := by
        rw [who6 hR hz]; exact whoN_eq _ (fun b hb => (hrow b hb).1)
      have eS : sumN (fun b => I1 724 0 (6 * (k + 1 + 1) + b)) (rC R) = sumN (itN R t (k + 1)).1 6 := by
        rw [sum6 hR hz]; exact sumN_eq _ (fun b hb => (hrow b hb).1)
      have := ih (k + 1) (by omega)
      simp only [spN] at this
      refine r_M_spread_65 ⟨fun q => absurd q (nI_nlt (a := 99) (b := k + 1) (by omega) (by omega)), fun _ => ?_⟩
      refine c_M_whoIn (r := k + 1 + 1) (by omega) (nI_add (k + 1) 1) (by omega) h2' hC ?_
      rw [eW]
      refine c_M_cnt (s := itN R t (k + 1)) (by omega) (c_M_sumIn (r := k + 1 + 1) (by omega) (nI_add (k + 1) 1) (by omega) h2' hC (c_M_whoIn (r := k + 1 + 1) (by omega) (nI_add (k + 1) 1) (by omega) h2' hC (c_M_whoIn (r := k + 1 + 1) (by omega) (nI_add (k + 1) 1) (by omega) h2' hC ?_)))
      rw [eW, eS, nI_1]
      refine ⟨fun q => ?_, fun q => ?_⟩
      · rw [if_pos q] at this; exact this
      · rw [if_neg q] at this; exact this
  exact key 99 0 (by omega)
end Spr

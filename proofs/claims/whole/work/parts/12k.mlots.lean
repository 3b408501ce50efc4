/-! draws of lots: the reference -/
def wL (R : RD) (k : Nat) : Nat := if k < rC R then 1 else 10 - rC R
def uL (R : RD) (t : SA) (k : Nat) (n : Int32) : SA := if k < rC R then slp t k n else t
theorem lt_alt {R : RD} {n : Int32} {v : SA → Nat} {l : Nat} {t : SA} : sumT (fun k => wL R k * ltN R n v l (trn R (uL R t k n) (-1))) (rC R + 1) = ltN R n v (l + 1) t := by
  show sumT (fun k => wL R k * ltN R n v l (trn R (uL R t k n) (-1))) (rC R) + wL R (rC R) * ltN R n v l (trn R (uL R t (rC R) n) (-1)) = (10 - rC R) * ltN R n v l (trn R t (-1)) + sumT (fun k => ltN R n v l (trn R (slp t k n) (-1))) (rC R)
  rw [sumT_eq (f := fun k => wL R k * ltN R n v l (trn R (uL R t k n) (-1))) (g := fun k => ltN R n v l (trn R (slp t k n) (-1))) (rC R) (fun k hk => by unfold wL uL; rw [if_pos hk, if_pos hk, Nat.one_mul])]
  unfold wL uL
  rw [if_neg (Nat.lt_irrefl _), if_neg (Nat.lt_irrefl _)]
  exact Nat.add_comm _ _
theorem uL_v {R : RD} {t : SA} {k e : Nat} {n : Int32} : (uL R t k n).2.2.1 e = if e = k ∧ k < rC R then t.2.2.1 e + n else t.2.2.1 e := by
  unfold uL
  by_cases h : k < rC R
  · rw [if_pos h]
    show (if e = k then t.2.2.1 k + n else t.2.2.1 e) = _
    by_cases y : e = k
    · rw [if_pos y, if_pos ⟨y, h⟩, y]
    · rw [if_neg y, if_neg (fun z => y z.1)]
  · rw [if_neg h, if_neg (fun z => h z.2)]
theorem uL_1 {R : RD} {t : SA} {k : Nat} {n : Int32} : (uL R t k n).1 = t.1 ∧ (uL R t k n).2.1 = t.2.1 ∧ (uL R t k n).2.2.2.1 = t.2.2.2.1 := by
  unfold uL
  split <;> exact ⟨rfl, rfl, rfl⟩
theorem uL_SR {R : RD} {t : SA} {k n : Nat} (h : SR R t 9) (hn : n ≤ 99) : SR R (uL R t k (nI n)) 108 := by
  unfold uL
  split
  · exact SR_slp h hn
  · exact h.mono (by omega)
theorem uL_Ok {R : RD} (hR : WF R) {t : SA} {k n : Nat} (h : OkS R t) (hn : n ≤ 99) : OkS R (trn R (uL R t k (nI n)) (-1)) := by
  unfold uL
  split
  · rename_i hk; exact slp_Ok hR h hn hk
  · exact trn_Ok hR h
theorem pw_s {a p : Int64} {x w y : Nat} : (a + p * lN x) + (p * lN w) * lN y = a + p * lN (x + w * y) := by
  rw [Int64.add_assoc, Int64.mul_assoc, lN_mul, ← Int64.mul_add, lN_add]
def MRl (I : MI) (R : RD) (g : Nat) (t : SA) : Prop := rwA I R g t ∧ (∃ m, m ≤ 9 ∧ t.2.2.2.1 = nI m ∧ I 704 0 21 = nI m ∧ mtA I R m (rW R)) ∧ (g = 0 → ∀ c, c < 6 → I 706 0 (74 + c) = t.2.2.1 c) ∧ (0 < g → ∀ c, c < rC R → t.2.2.1 c = 0)
def zfV (R : RD) (cc : Int32) (v : SA → Nat) : Prop := (cc = -1 ∧ v = fun _ => 0) ∨ ∃ c, c < rC R ∧ cc = nI c ∧ v = laV c
/-- of longs only the object's own change -/
def oL (L L' : ML) : Prop := ∀ r a, r ≠ 704 → L' r a = L r a
section LotsM
variable {d : Nat} {I : MI} {L : ML} {R : RD} {s : SA} {P : List SA}
theorem c_M_goesLots {n : Nat} {cc : Int32} {v6 : SA → Nat} (hR : WF R) (hn : n ≤ 99) (hv : zfV R cc v6) : ∀ (l : Nat) {d g : Nat} {I : MI} {L : ML} {t : SA} {p : Int64} {K : MI → ML → Prop}, 6 + l ≤ d → MRo (I 706 0) R → MRl I R g t → OkS R t → g + l ≤ 5 → (∀ I' L', (∀ j, j < 6 * (g + 2) → I' 724 0 j = I 724 0 j) → I' 704 0 21 = I 704 0 21 → ofl I I' → Same gsS I I' → L' 704 0 35 = L 704 0 35 + p * lN (ltN R (nI n) quV l t) → L' 704 0 36 = L 704 0 36 + p * lN (ltN R (nI n) v6 l t) → oL L L' → K I' L') → CV d m_M_goesLots [vR 704 0, vI cc, vI (nI n), vI (nI g), vI (nI (g + l)), vL p] I L K := by
  have hC := hR.1
  intro l
  induction l with
  | zero =>
    intro d g I L t p K hd hM hg hok hgl h
    have cl : ∀ x y : Int64, x = p * lN (quV t) → y = p * lN (v6 t) → K I (ul (ul L 704 0 35 (L 704 0 35 + x)) 704 0 36 ((ul L 704 0 35 (L 704 0 35 + x)) 704 0 36 + y)) := by
      intro x y ex ey
      refine h I _ (fun _ _ => rfl) rfl (fun j _ _ => rfl) Same.rf ?_ ?_ (fun r a hr => by rw [ul_o (fun z => hr z.1), ul_o (fun z => hr z.1)])
      · rw [ul_k (by decide), ul_s, ex]; rfl
      · rw [ul_s, ul_k (by decide), ey]; rfl
    have eW : whoN (fun c => I 724 0 (6 * (g + 1) + c)) (rC R) = whoN t.1 6 := by
      rw [who6 hR hok.2]
      exact whoN_eq _ (fun c hc => (hg.1 c hc).1)
    refine toCV (n := 5) (by omega) (r_M_goesLots_0 ⟨fun q => absurd rfl q, fun _ => c_M_whoIn (r := g + 1) (by omega) (by rw [Nat.add_zero]; exact nI_1 g) (by omega) hM.1 (by omega) ?_⟩)
    rw [eW]
    have m0 : (0 : Int64) = p * lN 0 := Int64.mul_zero.symm
    have m1 : p = p * lN 1 := (Int64.mul_one p).symm
    rcases hv with ⟨e, ev⟩ | ⟨c, hc, e, ev⟩
    · subst ev
      refine ⟨fun q => ⟨fun z => absurd e z, fun _ => ⟨rfl, cl _ _ ?_ rfl⟩⟩, fun q => ⟨fun z => absurd e z, fun _ => ⟨rfl, cl _ _ ?_ rfl⟩⟩⟩
      · unfold quV; rw [if_neg q]; exact m0
      · unfold quV; rw [if_pos (Classical.not_not.mp q)]; exact m1
    · subst ev
      subst e
      have er : I 724 0 (6 * (g + 0 + 1) + c) = t.1 c := (hg.1 c hc).1
      refine ⟨fun q => ⟨fun _ => c_M_lateAt (by omega) (by omega) (by omega) ⟨rfl, cl _ _ ?_ ?_⟩, fun z => absurd (nI_m1 (by omega)) z⟩, fun q => ⟨fun _ => c_M_lateAt (by omega) (by omega) (by omega) ⟨rfl, cl _ _ ?_ ?_⟩, fun z => absurd (nI_m1 (by omega)) z⟩⟩
      · unfold quV; rw [if_neg q]; exact m0
      · rw [er, la_64 hok hc]
      · unfold quV; rw [if_pos (Classical.not_not.mp q)]; exact m1
      · rw [er, la_64 hok hc]
  | succ l ih =>
    intro d g I L t p K hd hM hg hok hgl h
    obtain ⟨hrow, ⟨m, hm, em, h21, ht⟩, hg0, hg1⟩ := hg
    refine toCV (n := 6 + l) (by omega) (r_M_goesLots_0 ⟨fun _ => ?_, fun q => absurd ((nI_eq (by omega) (by omega)).mp (Classical.not_not.mp q)) (by omega)⟩)
    have key : ∀ (b k : Nat) (J : MI) (LJ : ML), k + b = rC R + 1 → (∀ j, j < 6 * (g + 2) → J 724 0 j = I 724 0 j) → J 704 0 21 = nI m → ofl I J → Same gsS I J → LJ 704 0 35 = L 704 0 35 + p * lN (sumT (fun k => wL R k * ltN R (nI n) quV l (trn R (uL R t k (nI n)) (-1))) k) → LJ 704 0 36 = L 704 0 36 + p * lN (sumT (fun k => wL R k * ltN R (nI n) v6 l (trn R (uL R t k (nI n)) (-1))) k) → oL L LJ → XX (6 + l + 1) m_M_goesLots (fun r I' L' => r = none ∧ K I' L') 63 [vR 704 0, vI cc, vI (nI n), vI (nI g), vI (nI (g + (l + 1))), vL p, vD, vI (nI k), vD] [] J LJ := by
      intro b
      induction b with
      | zero =>
        intro k J LJ hk hlo j21 ho hS hl5 hl6 hoL
        have n6 : J 706 0 = I 706 0 := gs_no hS (by decide)
        refine r_M_goesLots_63 ?_
        rw [n6, hM.1]
        have ek : k = rC R + 1 := by omega
        subst ek
        rw [lt_alt] at hl5 hl6
        exact ⟨fun _ => ⟨rfl, h J LJ hlo (by rw [j21, h21]) ho hS hl5 hl6 hoL⟩, fun q => absurd (nI_lt (show rC R < rC R + 1 by omega) (by omega)) q⟩
      | succ b ihb =>
        intro k J LJ hk hlo j21 ho hS hl5 hl6 hoL
        have n6 : J 706 0 = I 706 0 := gs_no hS (by decide)
        have step : ∀ J0 : MI, (∀ c, c < rC R → J0 725 0 c = (uL R t k (nI n)).2.2.1 c) → (∀ j, j < 6 * (g + 2) → J0 724 0 j = I 724 0 j) → J0 704 0 21 = nI m → ofl I J0 → Same gsS I J0 → CV (6 + l) m_M_goes [vR 704 0, vI (nI g), vI (-1)] J0 LJ (fun I15 L16 => ((I15 706 0 2) ≤ nI k → (CV (6 + l) m_M_goesLots [vR 704 0, vI cc, vI (nI n), vI (nI g + (1 : Int32)), vI (nI (g + (l + 1))), vL (p * (((10 : Int32) - (I15 706 0 2)).toInt64))] I15 L16 (fun I17 L18 => XX (6 + l + 1) m_M_goesLots (fun r I' L' => r = none ∧ K I' L') 63 [vR 704 0, vI cc, vI (nI n), vI (nI g), vI (nI (g + (l + 1))), vL p, vD, vI (nI k + 1), vD] [] I17 L18))) ∧ (¬ ((I15 706 0 2) ≤ nI k) → (CV (6 + l) m_M_goesLots [vR 704 0, vI cc, vI (nI n), vI (nI g + (1 : Int32)), vI (nI (g + (l + 1))), vL p] I15 L16 (fun I19 L20 => XX (6 + l + 1) m_M_goesLots (fun r I' L' => r = none ∧ K I' L') 63 [vR 704 0, vI cc, vI (nI n), vI (nI g), vI (nI (g + (l + 1))), vL p, vD, vI (nI k + 1), vD] [] I19 L20)))) := by
          intro J0 q25 qlo q21 qo qS
          have n60 : J0 706 0 = I 706 0 := gs_no qS (by decide)
          have n30 : J0 723 0 = I 723 0 := gs_no qS (by decide)
          refine c_M_goes (s := uL R t k (nI n)) (r := g) (by omega) hR (by rw [n60]; exact hM) (by omega) ⟨fun c hc => ⟨by rw [qlo _ (by omega), uL_1.1]; exact (hrow c hc).1, by rw [qlo _ (by omega), uL_1.2.1]; exact (hrow c hc).2⟩, q25, m, hm, uL_1.2.2.trans em, q21, fun w hw => by rw [n30]; exact ht w hw⟩ ((uL_SR hok.1 hn).mono (by omega)) (fun J1 hG1 hlo1 ho1 hS1 => ?_)
          obtain ⟨r1, r2, m1, hm1, em1, e21, ht1⟩ := hG1
          have n61 : J1 706 0 = I 706 0 := (gs_no hS1 (by decide)).trans n60
          have em' : m1 = m := (nI_eq (by omega) (by omega)).mp (em1.symm.trans (uL_1.2.2.trans em))
          subst em'
          have rcl : ∀ pp : Int64, pp = p * lN (wL R k) → CV (6 + l) m_M_goesLots [vR 704 0, vI cc, vI (nI n), vI (nI (g + 1)), vI (nI (g + (l + 1))), vL pp] J1 LJ (fun I17 L18 => XX (6 + l + 1) m_M_goesLots (fun r I' L' => r = none ∧ K I' L') 63 [vR 704 0, vI cc, vI (nI n), vI (nI g), vI (nI (g + (l + 1))), vL p, vD, vI (nI (k + 1)), vD] [] I17 L18) := by
            intro pp epp
            rw [show g + (l + 1) = g + 1 + l by omega]
            refine ih (g := g + 1) (t := trn R (uL R t k (nI n)) (-1)) (by omega) (by rw [n61]; exact hM) ⟨r1, ⟨m1, hm, em1, e21, ht1⟩, fun z => by omega, fun _ c hc => rfl⟩ (uL_Ok hR hok hn) (by omega) (fun J2 L2 hlo2 k21 ho2 hS2 el5 el6 eoL => ?_)
            have := ihb (k + 1) J2 L2 (by omega) (fun j hj => by rw [hlo2 j (by omega), hlo1 j hj]; exact qlo j hj) (by rw [k21]; exact e21) ((qo.tr ho1).tr ho2) ((qS.tr hS1).tr hS2) (by rw [el5, hl5, epp, pw_s]; rfl) (by rw [el6, hl6, epp, pw_s]; rfl) (fun r a hr => (eoL r a hr).trans (hoL r a hr))
            rw [show g + (l + 1) = g + 1 + l by omega] at this
            exact this
          rw [n61, hM.1, nI_1 (a := g), nI_1 (a := k)]
          refine ⟨fun q => rcl _ ?_, fun q => rcl _ ?_⟩
          · have hkC : rC R ≤ k := (nI_leI (by omega) (by omega)).mp q
            unfold wL
            rw [if_neg (by omega), show (10 : Int32) = nI 10 from rfl, nI_sub (by omega), nI_l (by omega)]
          · have hkC : k < rC R := by
              rcases Nat.lt_or_ge k (rC R) with z | z
              · exact z
              · exact absurd (nI_le z (by omega)) q
            unfold wL
            rw [if_pos hkC]
            exact (Int64.mul_one p).symm
        refine r_M_goesLots_63 ?_
        rw [n6, hM.1]
        refine ⟨fun q => absurd q (nI_nlt (show k ≤ rC R by omega) (by omega)), fun _ => ?_⟩
        have inner : ∀ (a e : Nat) (J0 : MI), e + a = 6 → (∀ c, c < e → c < rC R → J0 725 0 c = (uL R t k (nI n)).2.2.1 c) → (∀ j, j < 6 * (g + 2) → J0 724 0 j = I 724 0 j) → J0 704 0 21 = nI m → ofl I J0 → Same gsS I J0 → XX (6 + l + 1) m_M_goesLots (fun r I' L' => r = none ∧ K I' L') 77 [vR 704 0, vI cc, vI (nI n), vI (nI g), vI (nI (g + (l + 1))), vL p, vD, vI (nI k), vI (nI e)] [] J0 LJ := by
          intro a
          induction a with
          | zero =>
            intro e J0 he q25 qlo q21 qo qS
            have e6 : e = 6 := by omega
            subst e6
            exact r_M_goesLots_77 ⟨fun _ => step J0 (fun c hc => q25 c (by omega) hc) qlo q21 qo qS, fun z => absurd (by decide) z⟩
          | succ a iha =>
            intro e J0 he q25 qlo q21 qo qS
            have n60 : J0 706 0 = I 706 0 := gs_no qS (by decide)
            have e74 : (74 : Int32) + nI e = nI (74 + e) := nI_add 74 e
            have go : ∀ x : Int32, (e < rC R → x = if e = k ∧ k < rC R then t.2.2.1 e + nI n else t.2.2.1 e) → XX (6 + l + 1) m_M_goesLots (fun r I' L' => r = none ∧ K I' L') 77 [vR 704 0, vI cc, vI (nI n), vI (nI g), vI (nI (g + (l + 1))), vL p, vD, vI (nI k), vI (nI (e + 1))] [] (ui J0 725 0 e x) LJ := by
              intro x hx
              refine iha (e + 1) _ (by omega) (fun c hc hcC => ?_) (fun j hj => by rw [ui_r (by decide)]; exact qlo j hj) (by rw [ui_r (by decide)]; exact q21) (fun j x y => by rw [ui_r (by decide)]; exact qo j x y) (qS.ui ⟨by simp, rfl⟩)
              by_cases y : c = e
              · subst y; rw [ui_s, uL_v]; exact hx hcC
              · rw [ui_k y]; exact q25 c (by omega) hcC
            refine r_M_goesLots_77 ?_
            rw [e74, cl_n (by omega), cl_n (by omega), n60, nI_1 (a := e), hM.1]
            refine ⟨fun z => absurd z (nle_c (m := 6) (by omega) (by omega)), fun _ => ⟨fun q => ?_, fun q => ⟨vin (by omega) (by omega), ?_⟩⟩⟩
            · have hgp : 0 < g := by
                rcases Nat.eq_zero_or_pos g with z | z
                · subst z; exact absurd rfl q
                · exact z
              refine ⟨fun q2 => ⟨vin (by omega) (by omega), go _ (fun hc => ?_)⟩, fun q2 => ⟨fun q3 => ⟨vin (by omega) (by omega), go _ (fun hc => ?_)⟩, fun q3 => ⟨vin (by omega) (by omega), go _ (fun hc => ?_)⟩⟩⟩
              · rw [if_neg (fun z => q2 (by rw [z.1])), hg1 hgp e hc]; rfl
              · have hkC : rC R ≤ k := (nI_leI (by omega) (by omega)).mp q3
                rw [if_neg (fun z => by omega), hg1 hgp e hc]; rfl
              · have hek := (nI_eq (by omega) (by omega)).mp (Classical.not_not.mp q2)
                rw [if_pos ⟨hek, by omega⟩, hg1 hgp e hc]
            · have hgz : g = 0 := (nI_eq (b := 0) (by omega) (by omega)).mp (Classical.not_not.mp q)
              have eb := hg0 hgz e (by omega)
              rw [eb]
              refine ⟨fun q2 => ⟨vin (by omega) (by omega), go _ (fun hc => ?_)⟩, fun q2 => ⟨fun q3 => ⟨vin (by omega) (by omega), go _ (fun hc => ?_)⟩, fun q3 => ⟨vin (by omega) (by omega), go _ (fun hc => ?_)⟩⟩⟩
              · rw [if_neg (fun z => q2 (by rw [z.1])), Int32.add_zero]
              · have hkC : rC R ≤ k := (nI_leI (by omega) (by omega)).mp q3
                rw [if_neg (fun z => by omega), Int32.add_zero]
              · have hek := (nI_eq (by omega) (by omega)).mp (Classical.not_not.mp q2)
                rw [if_pos ⟨hek, by omega⟩]
        exact inner 6 0 J (by omega) (fun c hc => by omega) hlo j21 ho hS
    have z5 : ∀ x : Int64, x = x + p * lN 0 := fun x => by
      have : p * lN 0 = 0 := Int64.mul_zero
      rw [this, Int64.add_zero]
    exact key (rC R + 1) 0 I L (by omega) (fun j _ => rfl) h21 (fun j _ _ => rfl) Same.rf (z5 _) (z5 _) (fun _ _ _ => rfl)
theorem c_M_laysLots {n k : Nat} {cc : Int32} {v6 : SA → Nat} {K : MI → ML → Prop} (hd : 12 ≤ d) (hO : CoO R s P) (hc : CoM I R s P) (hn : n ≤ 99) (hk : k ≤ 4) (hv : zfV R cc v6) (h : ∀ I' L', CoM I' R s P → mF0 I I' → I' 704 0 0 = I 704 0 0 → L' 704 0 35 = lN (ltN R (nI n) quV k s) → L' 704 0 36 = lN (ltN R (nI n) v6 k s) → oL L L' → K I' L') : CV d m_M_laysLots [vR 704 0, vI cc, vI (nI n), vI (nI k)] I L K := by
  have hR := hO.1
  refine toCV (n := 11) hd (r_M_laysLots_0 ?_)
  rw [hc.2.1.2.1]
  refine CoM_begins (by omega) hO hc (fun I1 hG1 n1 t1 hF1 => ?_)
  obtain ⟨r1, r2, m, hm, em, h21, ht⟩ := hG1
  have z1 : ∀ x : Int64, (0 : Int64) + 1 * x = x := fun x => by rw [Int64.one_mul, Int64.zero_add]
  have := c_M_goesLots (L := ul (ul L 704 0 35 0) 704 0 36 0) hR hn hv k (d := 11) (g := 0) (I := I1) (t := s) (p := 1) (K := fun I3 L4 => (none : Option MV) = none ∧ K I3 L4) (by omega) (by rw [n1]; exact hc.1) ⟨r1, ⟨m, hm, em, h21, ht⟩, fun _ c hc6 => by rw [n1]; exact (hc.2.1.1 c hc6).2.2, fun z => by omega⟩ hO.2.1 (by omega) (fun I2 L2 _ _ ho2 hS2 e5 e6 eo => ⟨rfl, h I2 L2 (CoM_cg hR hc ((gs_no hS2 (by decide)).trans n1)) (hF1.tr (gs_F0 hS2 ho2)) (by rw [ho2 0 (by decide) (by decide), t1]) ?_ ?_ (fun r a hr => (eo r a hr).trans (by rw [ul_o (fun z => hr z.1), ul_o (fun z => hr z.1)]))⟩)
  · rw [Nat.zero_add] at this
    exact this
  · rw [e5, ul_k (by decide), ul_s]; exact z1 _
  · rw [e6, ul_s]; exact z1 _
theorem m_chance {n k w : Int32} {K : Int32 → MI → ML → Prop} (hd : 83 ≤ d) (hO : CoO R s P) (hc : CoM I R s P) (h2 : ¬ lwR w → K (-2) (ui I 704 0 0 0) L) (h3 : lwR w → ¬ lnR n k → K (-3) (ui I 704 0 0 0) L) (h1 : lwR w → lnR n k → ∀ I' L', CoM I' R s P → mFr I I' → oL L L' → K (lwO w (ltN R n quV k.toInt.toNat s) (10 ^ k.toInt.toNat)).toInt32 I' L') : CI d m_M_chance [vR 704 0, vI n, vI k, vI w] I L K := by
  have hR := hO.1
  have en := Int32.toInt_toInt64 n
  have ek := Int32.toInt_toInt64 k
  have ew := Int32.toInt_toInt64 w
  have o0 : (0 : Int64).toInt = 0 := rfl
  have o1 : (1 : Int64).toInt = 1 := rfl
  have o4 : (4 : Int64).toInt = 4 := rfl
  have o9 : (99 : Int64).toInt = 99 := rfl
  have hc0 : CoM (ui I 704 0 0 0) R s P := CoM_cg hR hc t0_6
  refine toCI (n := 82) hd (r_M_chance_0 (c_M_within (by omega) (fun g1 g2 => ⟨fun _ => ?_, fun q => absurd (by decide) q⟩) (fun g => ⟨fun q => absurd rfl q, fun _ => ⟨_, rfl, h2 (fun z => g (by rw [ew, o0, o1]; exact z))⟩⟩)))
  rw [ew, o0] at g1
  rw [ew, o1] at g2
  have hw : lwR w := ⟨g1, g2⟩
  refine c_M_within (by omega) (fun g3 g4 => ⟨fun q => absurd q (by decide), fun _ => ?_⟩) (fun g => ⟨fun _ => ⟨_, rfl, h3 hw (fun z => g (by rw [en, o0, o9]; exact z.1))⟩, fun q => absurd rfl q⟩)
  rw [en, o0] at g3
  rw [en, o9] at g4
  refine c_M_within (by omega) (fun g5 g6 => ⟨fun _ => ?_, fun q => absurd (by decide) q⟩) (fun g => ⟨fun q => absurd rfl q, fun _ => ⟨_, rfl, h3 hw (fun z => g (by rw [ek, o1, o4]; exact z.2))⟩⟩)
  rw [ek, o1] at g5
  rw [ek, o4] at g6
  have fin := h1 hw ⟨⟨g3, g4⟩, g5, g6⟩
  have e1 := ge_nI (a := n) (by omega)
  have e2 := ge_nI (a := k) (by omega)
  have c1 : n.toInt.toNat ≤ 99 := by omega
  have c2 : k.toInt.toNat ≤ 4 := by omega
  clear g1 g2 g3 g4 g5 g6 h1 h2 h3 ew en ek
  generalize n.toInt.toNat = n' at *
  generalize k.toInt.toNat = k' at *
  subst e1 e2
  have hb := lt_le hO.1 c1 (lf_le (cc := -1) (Or.inl ⟨rfl, rfl⟩)) k' s hO.2.1
  have hp := pw_10 c2
  have : 10 ^ k' * 100000 ≤ 10000 * 100000 := Nat.mul_le_mul_right _ hp.2
  refine c_M_laysLots (by omega) hO hc0 c1 c2 (Or.inl ⟨rfl, rfl⟩) (fun I' L' hc' hF' t0 e5 e6 eo => c_M_wholeOf (by omega) c2 ?_)
  rw [e5]
  exact c_M_part (by omega) hp.1 (by omega) (by omega) ⟨_, rfl, fin I' L' hc' ⟨t0_F.tr hF', by rw [t0, ui_s]⟩ eo⟩
theorem m_mean {c n k w : Int32} {K : Int64 → MI → ML → Prop} (hd : 83 ≤ d) (hO : CoO R s P) (hc : CoM I R s P) (h2 : ¬ (isC R c ∧ lwR w) → K (-2) (ui I 704 0 0 0) L) (h3 : isC R c → lwR w → ¬ lnR n k → K (-3) (ui I 704 0 0 0) L) (h1 : isC R c → lwR w → lnR n k → ∀ I' L', CoM I' R s P → mFr I I' → oL L L' → K (lwO w (ltN R n (laV c.toInt.toNat) k.toInt.toNat s) (10 ^ k.toInt.toNat)) I' L') : CJ d m_M_mean [vR 704 0, vI c, vI n, vI k, vI w] I L K := by
  have hR := hO.1
  have en := Int32.toInt_toInt64 n
  have ek := Int32.toInt_toInt64 k
  have ew := Int32.toInt_toInt64 w
  have ec := Int32.toInt_toInt64 c
  have o0 : (0 : Int64).toInt = 0 := rfl
  have o1 : (1 : Int64).toInt = 1 := rfl
  have o4 : (4 : Int64).toInt = 4 := rfl
  have o9 : (99 : Int64).toInt = 99 := rfl
  have hc0 : CoM (ui I 704 0 0 0) R s P := CoM_cg hR hc t0_6
  refine toCJ (n := 82) hd (r_M_mean_0 (c_M_isCoach (by omega) hR hc0.1 (fun y1 y2 => ⟨fun q => absurd q (by decide), fun _ => ?_⟩) (fun g => ⟨fun _ => ⟨_, rfl, h2 (fun z => g (by rw [ec]; exact z.1))⟩, fun q => absurd rfl q⟩)))
  rw [ec] at y1 y2
  have hC' : isC R c := ⟨y1, y2⟩
  refine c_M_within (by omega) (fun g1 g2 => ⟨fun _ => ?_, fun q => absurd (by decide) q⟩) (fun g => ⟨fun q => absurd rfl q, fun _ => ⟨_, rfl, h2 (fun z => g (by rw [ew, o0, o1]; exact z.2))⟩⟩)
  rw [ew, o0] at g1
  rw [ew, o1] at g2
  have hw : lwR w := ⟨g1, g2⟩
  refine c_M_within (by omega) (fun g3 g4 => ⟨fun q => absurd q (by decide), fun _ => ?_⟩) (fun g => ⟨fun _ => ⟨_, rfl, h3 hC' hw (fun z => g (by rw [en, o0, o9]; exact z.1))⟩, fun q => absurd rfl q⟩)
  rw [en, o0] at g3
  rw [en, o9] at g4
  refine c_M_within (by omega) (fun g5 g6 => ⟨fun _ => ?_, fun q => absurd (by decide) q⟩) (fun g => ⟨fun q => absurd rfl q, fun _ => ⟨_, rfl, h3 hC' hw (fun z => g (by rw [ek, o1, o4]; exact z.2))⟩⟩)
  rw [ek, o1] at g5
  rw [ek, o4] at g6
  have fin := h1 hC' hw ⟨⟨g3, g4⟩, g5, g6⟩
  have e1 := ge_nI (a := n) (by omega)
  have e2 := ge_nI (a := k) (by omega)
  have e3 := ge_nI (a := c) (by omega)
  have c1 : n.toInt.toNat ≤ 99 := by omega
  have c2 : k.toInt.toNat ≤ 4 := by omega
  have c3 : c.toInt.toNat < rC R := by omega
  clear g1 g2 g3 g4 g5 g6 y1 y2 h1 h2 h3 ew en ek ec hC'
  generalize n.toInt.toNat = n' at *
  generalize k.toInt.toNat = k' at *
  generalize c.toInt.toNat = c' at *
  subst e1 e2 e3
  have hb := lt_le hO.1 c1 (lf_le (Or.inr ⟨c', c3, rfl, rfl⟩)) k' s hO.2.1
  have hp := pw_10 c2
  have : 10 ^ k' * 100000 ≤ 10000 * 100000 := Nat.mul_le_mul_right _ hp.2
  refine c_M_laysLots (by omega) hO hc0 c1 c2 (Or.inr ⟨c', c3, rfl, rfl⟩) (fun I' L' hc' hF' t0 e5 e6 eo => c_M_wholeOf (by omega) c2 ?_)
  rw [e6]
  exact c_M_part (by omega) hp.1 (by omega) (by omega) ⟨_, rfl, fin I' L' hc' ⟨t0_F.tr hF', by rw [t0, ui_s]⟩ eo⟩
end LotsM

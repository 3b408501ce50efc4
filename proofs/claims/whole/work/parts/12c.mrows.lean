/-! rows, public, both sides -/
section RowsM
variable {d : Nat} {I : MI} {L : ML} {R : RD} {s : SA} {P : List SA}
theorem CoC_lv {I' : MI} (hc : CoC I R s P) (hG : GoA I' R) (hS : Same (lvS 2) I I') : CoC I' R s P := by
  refine ⟨hc.1.same hS (fun r h1 h2 => lv_road h1 h2), hc.2.1.lv hS (by omega), hG, hc.2.2.2.same hS (fun q => ?_) (fun r a h1 h2 h3 h4 q => ?_)⟩
  · rcases q with z | z
    · rcases z.1 with y | y | y | y | y | y | y | y | y <;> omega
    · rcases z.1 with y | y | y | y <;> omega
  · rcases q with z | z
    · exact goS_st h1 h2 z
    · omega
theorem lv_cd {i : Nat} {I I' : MI} (h : Same (lvS i) I I') : Same cdS I I' := h.mono (fun r a q => q.elim (fun z => Or.inr (Or.inl z)) (fun z => Or.inl ⟨z.1, by omega⟩))
theorem w_rows {c n : Int32} {K : Int32 → MI → ML → Prop} (hd : 14 ≤ d) (hO : CoO R s P) (hc : CoC I R s P) (h2 : ¬ isC R c → K (-2) I L) (h3 : isC R c → ¬ (0 ≤ n.toInt ∧ n.toInt ≤ 4) → K (-3) I L) (h1 : isC R c → 0 ≤ n.toInt → n.toInt ≤ 4 → ∀ I', CoC I' R s P → Same cdS I I' → K (rwsN R c.toInt.toNat n.toInt.toNat s) I' L) : CI d m_W_rows [vR 0 0, vI c, vI n] I L K := by
  have hR := hO.1
  have z0 : (0 : Int32).toInt = 0 := rfl
  have z4 : (4 : Int32).toInt = 4 := rfl
  refine toCI (n := 13) hd (r_W_rows_0 (c_W_isCoach (by omega) hR hc.1 (fun g1 g2 => ⟨fun _ => ⟨fun q => ⟨_, rfl, h3 ⟨g1, g2⟩ (fun z => ?_)⟩, fun q => ⟨fun q2 => ?_, fun q2 => ⟨_, rfl, h3 ⟨g1, g2⟩ (fun z => ?_)⟩⟩⟩, fun q => absurd (by decide) q⟩) (fun g => ⟨fun q => absurd rfl q, fun _ => ⟨_, rfl, h2 g⟩⟩)))
  · have := Int32.lt_iff_toInt_lt.mp q; omega
  · have a1 := Int32.le_iff_toInt_le.mp (Int32.not_lt.mp q)
    have a2 := Int32.le_iff_toInt_le.mp q2
    have fin := h1 ⟨g1, g2⟩ (by omega) (by omega)
    have e1 := ge_nI g1
    have e2 := ge_nI (a := n) (by omega)
    have b1 : c.toInt.toNat < rC R := by omega
    have b2 : n.toInt.toNat ≤ 4 := by omega
    clear a1 a2 q q2 g1 g2 h1 h2 h3
    generalize c.toInt.toNat = c' at *
    generalize n.toInt.toNat = n' at *
    subst e1 e2
    refine toCI (n := 12) (by omega) (r_Br_rowsInTime_0 (c_St_copy (by omega) (by omega) hc.2.1 (fun I1 hs1 hS1 => ?_)))
    have hG1 := GoA_st hc.2.2.1 hS1
    have hc1 := CoC_tu hc (i := 3) (by omega) (by omega) hG1 (st_tu hS1)
    refine c_Br_rowsFrom (i := 0) hR b1 n' (by omega) hc1.1 hG1 hs1 hO.2.1 (by omega) (fun I2 hG2 hS2 => ⟨_, rfl, _, rfl, ?_⟩)
    exact fin I2 (CoC_lv hc1 hG2 (lv_lv (by omega) hS2)) ((st_cd (by omega) hS1).tr (lv_cd hS2))
  · have := Int32.lt_iff_toInt_lt.mp (Int32.not_le.mp q2); omega
/-- before the rounds from g on -/
def MRs (I : MI) (R : RD) (g : Nat) (t : SA) : Prop := rwA I R g t ∧ (∃ m, m ≤ 9 ∧ t.2.2.2.1 = nI m ∧ I 704 0 21 = nI m ∧ mtA I R m (rW R)) ∧ (g = 0 → ∀ c, c < 6 → I 706 0 (74 + c) = t.2.2.1 c) ∧ (0 < g → ∀ c, c < rC R → t.2.2.1 c = 0 ∧ I 725 0 c = 0)
theorem c_M_rowsFrom {c : Nat} (hR : WF R) (hcl : c < rC R) : ∀ (l : Nat) {d g : Nat} {I : MI} {t : SA} {K : Int32 → MI → ML → Prop}, 6 + l ≤ d → MRo (I 706 0) R → MRs I R g t → SR R t 9 → g + l ≤ 5 → (∀ I', (∀ j, j < 6 * (g + 2) → I' 724 0 j = I 724 0 j) → (0 < g → ∀ c, c < rC R → I' 725 0 c = 0) → I' 704 0 21 = I 704 0 21 → ofl I I' → Same gsS I I' → K (rwsN R c l t) I' L) → CI d m_M_rowsFrom [vR 704 0, vI (nI c), vI (nI g), vI (nI (g + l))] I L K := by
  have hC := hR.1
  have hW := hR.2.1
  intro l
  induction l with
  | zero =>
    intro d g I t K hd hM hg hok hgl h
    refine toCI (n := 5) (by omega) (r_M_rowsFrom_0 ⟨fun q => absurd rfl q, fun _ => c_M_lateAt (by omega) (by omega) (by omega) ?_⟩)
    rw [(hg.1 c hcl).1]
    have fin := h I (fun j _ => rfl) (fun z c hc => (hg.2.2.2 z c hc).2) rfl (fun j _ _ => rfl) Same.rf
    simp only [rwsN] at fin
    refine ⟨fun q => ⟨_, rfl, ?_⟩, fun q => ⟨_, rfl, ?_⟩⟩
    · rw [if_neg q] at fin; exact fin
    · rw [if_pos (Classical.not_not.mp q)] at fin; exact fin
  | succ l ih =>
    intro d g I t K hd hM hg hok hgl h
    obtain ⟨hrow, ⟨m, hm, em, h21, ht⟩, hg0, hg1⟩ := hg
    refine toCI (n := 6 + l) (by omega) (r_M_rowsFrom_0 ⟨fun _ => ?_, fun q => absurd ((nI_eq (by omega) (by omega)).mp (Classical.not_not.mp q)) (by omega)⟩)
    have key : ∀ (b k : Nat) (J : MI), k + b = rW R + 1 → (∀ j, j < 6 * (g + 2) → J 724 0 j = I 724 0 j) → (0 < g → ∀ c, c < rC R → J 725 0 c = 0) → J 704 0 21 = nI m → ofl I J → Same gsS I J → XX (6 + l + 1) m_M_rowsFrom (fun r I' L' => ∃ x, r = some (vI x) ∧ K x I' L') 26 [vR 704 0, vI (nI c), vI (nI g), vI (nI (g + (l + 1))), vI (sumN (fun d => rwsN R c l (trn R t (nI d - 1))) k), vI (nI k), vD] [] J L := by
      intro b
      induction b with
      | zero =>
        intro k J hk hlo h25 j21 ho hS
        have n6 : J 706 0 = I 706 0 := gs_no hS (by decide)
        refine r_M_rowsFrom_26 ?_
        rw [n6, hM.2.1]
        refine ⟨fun _ => ⟨_, rfl, ?_⟩, fun q => absurd (nI_lt (show rW R < k by omega) (by omega)) q⟩
        have := h J hlo h25 (by rw [j21, h21]) ho hS
        rw [show k = rW R + 1 by omega]
        exact this
      | succ b ihb =>
        intro k J hk hlo h25 j21 ho hS
        have n6 : J 706 0 = I 706 0 := gs_no hS (by decide)
        have step : ∀ J0 : MI, (∀ c, c < rC R → J0 725 0 c = t.2.2.1 c) → (∀ j, j < 6 * (g + 2) → J0 724 0 j = I 724 0 j) → J0 704 0 21 = nI m → ofl I J0 → Same gsS I J0 → CV (6 + l) m_M_goes [vR 704 0, vI (nI g), vI (nI k - (1 : Int32))] J0 L (fun I6 L7 => CI (6 + l) m_M_rowsFrom [vR 704 0, vI (nI c), vI (nI g + (1 : Int32)), vI (nI (g + (l + 1)))] I6 L7 (fun x10 I8 L9 => XX (6 + l + 1) m_M_rowsFrom (fun r I' L' => ∃ x, r = some (vI x) ∧ K x I' L') 26 [vR 704 0, vI (nI c), vI (nI g), vI (nI (g + (l + 1))), vI (sumN (fun d => rwsN R c l (trn R t (nI d - 1))) k + x10), vI (nI k + 1), vD] [] I8 L9)) := by
          intro J0 q25 qlo q21 qo qS
          have n60 : J0 706 0 = I 706 0 := gs_no qS (by decide)
          have n30 : J0 723 0 = I 723 0 := gs_no qS (by decide)
          refine c_M_goes (s := t) (r := g) (by omega) hR (by rw [n60]; exact hM) (by omega) ⟨fun c hc => ⟨by rw [qlo _ (by omega)]; exact (hrow c hc).1, by rw [qlo _ (by omega)]; exact (hrow c hc).2⟩, q25, m, hm, em, q21, fun w hw => by rw [n30]; exact ht w hw⟩ (hok.mono (by omega)) (fun J1 hG1 hlo1 ho1 hS1 => ?_)
          obtain ⟨r1, r2, m1, hm1, em1, e21, ht1⟩ := hG1
          have n61 : J1 706 0 = I 706 0 := (gs_no hS1 (by decide)).trans n60
          have em' : m1 = m := (nI_eq (by omega) (by omega)).mp (em1.symm.trans em)
          subst em'
          rw [nI_1 (a := g), show g + (l + 1) = g + 1 + l by omega]
          refine ih (g := g + 1) (t := trn R t (nI k - 1)) (by omega) (by rw [n61]; exact hM) ⟨r1, ⟨m1, hm, em1, e21, ht1⟩, fun z => by omega, fun _ c hc => ⟨rfl, r2 c hc⟩⟩ ((trn_SR hR (by omega) hok).mono (by omega)) (by omega) (fun J2 hlo2 h252 k21 ho2 hS2 => ?_)
          rw [nI_1 (a := k)]
          have := ihb (k + 1) J2 (by omega) (fun j hj => by rw [hlo2 j (by omega), hlo1 j hj]; exact qlo j hj) (fun _ => h252 (by omega)) (by rw [k21]; exact e21) ((qo.tr ho1).tr ho2) ((qS.tr hS1).tr hS2)
          rw [show g + (l + 1) = g + 1 + l by omega] at this
          exact this
        refine r_M_rowsFrom_26 ?_
        rw [n6, hM.2.1]
        refine ⟨fun q => absurd q (nI_nlt (show k ≤ rW R by omega) (by omega)), fun _ => ⟨fun q => ?_, fun q => ?_⟩⟩
        · have hgp : 0 < g := by
            rcases Nat.eq_zero_or_pos g with z | z
            · subst z; exact absurd rfl q
            · exact z
          exact step J (fun c hc => by rw [h25 hgp c hc]; exact (hg1 hgp c hc).1.symm) hlo j21 ho hS
        · have hgz : g = 0 := (nI_eq (b := 0) (by omega) (by omega)).mp (Classical.not_not.mp q)
          have inner : ∀ (a e : Nat) (J0 : MI), e + a = 6 → (∀ c, c < e → J0 725 0 c = t.2.2.1 c) → (∀ j, j < 6 * (g + 2) → J0 724 0 j = I 724 0 j) → J0 704 0 21 = nI m → ofl I J0 → Same gsS I J0 → XX (6 + l + 1) m_M_rowsFrom (fun r I' L' => ∃ x, r = some (vI x) ∧ K x I' L') 44 [vR 704 0, vI (nI c), vI (nI g), vI (nI (g + (l + 1))), vI (sumN (fun d => rwsN R c l (trn R t (nI d - 1))) k), vI (nI k), vI (nI e)] [] J0 L := by
            intro a
            induction a with
            | zero =>
              intro e J0 he q25 qlo q21 qo qS
              have e6 : e = 6 := by omega
              subst e6
              exact r_M_rowsFrom_44 ⟨fun _ => step J0 (fun c hc => q25 c (by omega)) qlo q21 qo qS, fun z => absurd (by decide) z⟩
            | succ a iha =>
              intro e J0 he q25 qlo q21 qo qS
              have n60 : J0 706 0 = I 706 0 := gs_no qS (by decide)
              have e74 : (74 : Int32) + nI e = nI (74 + e) := nI_add 74 e
              refine r_M_rowsFrom_44 ?_
              rw [e74, cl_n (by omega), cl_n (by omega), n60, hg0 hgz e (by omega), nI_1 (a := e)]
              refine ⟨fun z => absurd z (nle_c (m := 6) (by omega) (by omega)), fun _ => ⟨vin (by omega) (by omega), vin (by omega) (by omega), iha (e + 1) _ (by omega) (fun c hc => ?_) (fun j hj => by rw [ui_r (by decide)]; exact qlo j hj) (by rw [ui_r (by decide)]; exact q21) (fun j x y => by rw [ui_r (by decide)]; exact qo j x y) (qS.ui ⟨by simp, rfl⟩)⟩⟩
              by_cases y : c = e
              · subst y; rw [ui_s]
              · rw [ui_k y]; exact q25 c (by omega)
          exact inner 6 0 J (by omega) (fun c hc => by omega) hlo j21 ho hS
    exact key (rW R + 1) 0 I (by omega) (fun j _ => rfl) (fun z c hc => (hg1 z c hc).2) h21 (fun j _ _ => rfl) Same.rf
theorem m_rows {c n : Int32} {K : Int32 → MI → ML → Prop} (hd : 11 ≤ d) (hO : CoO R s P) (hc : CoM I R s P) (h2 : ¬ isC R c → K (-2) (ui I 704 0 0 0) L) (h3 : isC R c → ¬ (0 ≤ n.toInt ∧ n.toInt ≤ 4) → K (-3) (ui I 704 0 0 0) L) (h1 : isC R c → 0 ≤ n.toInt → n.toInt ≤ 4 → ∀ I', CoM I' R s P → mFr I I' → K (rwsN R c.toInt.toNat n.toInt.toNat s) I' L) : CI d m_M_rows [vR 704 0, vI c, vI n] I L K := by
  have hR := hO.1
  have hC := hR.1
  have ec := Int32.toInt_toInt64 c
  have en := Int32.toInt_toInt64 n
  have o0 : (0 : Int64).toInt = 0 := rfl
  have o4 : (4 : Int64).toInt = 4 := rfl
  have hc0 : CoM (ui I 704 0 0 0) R s P := CoM_cg hR hc t0_6
  refine toCI (n := 10) hd (r_M_rows_0 (c_M_isCoach (by omega) hR hc0.1 (fun g1 g2 => ⟨fun _ => ?_, fun q => absurd (by decide) q⟩) (fun g => ⟨fun q => absurd rfl q, fun _ => ⟨_, rfl, h2 (by rw [ec] at g; exact g)⟩⟩)))
  rw [ec] at g1 g2
  refine c_M_within (by omega) (fun g3 g4 => ⟨fun _ => ?_, fun q => absurd (by decide) q⟩) (fun g => ⟨fun q => absurd rfl q, fun _ => ⟨_, rfl, h3 ⟨g1, g2⟩ (fun z => g (by rw [en, o0, o4]; exact z))⟩⟩)
  rw [en, o0] at g3
  rw [en, o4] at g4
  have fin := h1 ⟨g1, g2⟩ g3 g4
  have e1 := ge_nI g1
  have e2 := ge_nI g3
  have b1 : c.toInt.toNat < rC R := by omega
  have b2 : n.toInt.toNat ≤ 4 := by omega
  clear g1 g2 g3 g4 h1 h2 h3 ec en
  generalize c.toInt.toNat = c' at *
  generalize n.toInt.toNat = n' at *
  subst e1 e2
  rw [hc0.2.1.2.1]
  refine CoM_begins (by omega) hO hc0 (fun I1 hG1 n1 t1 hF1 => ?_)
  obtain ⟨r1, r2, m, hm, em, h21, ht⟩ := hG1
  have := c_M_rowsFrom (L := L) hR b1 n' (d := 10) (g := 0) (I := I1) (t := s) (K := fun x11 I9 L10 => ∃ x, some (vI x11) = some (vI x) ∧ K x I9 L10) (by omega) (by rw [n1]; exact hc0.1) ⟨r1, ⟨m, hm, em, h21, ht⟩, fun _ c hc6 => by rw [n1]; exact (hc0.2.1.1 c hc6).2.2, fun z => by omega⟩ hO.2.1.1 (by omega) (fun I2 _ _ _ ho2 hS2 => ⟨_, rfl, fin I2 (CoM_cg hR hc0 ((gs_no hS2 (by decide)).trans n1)) ⟨(t0_F.tr hF1).tr (gs_F0 hS2 ho2), by rw [ho2 0 (by decide) (by decide), t1, ui_s]⟩⟩)
  rw [Nat.zero_add] at this
  exact this
end RowsM

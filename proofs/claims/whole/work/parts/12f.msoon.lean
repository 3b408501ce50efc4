/-! soonest, way, of the reference -/
def fdS : Nat → Nat → Prop := fun r a => gsS r a ∨ (r = 738 ∧ a = 0)
theorem gs_fd {I I' : MI} (h : Same gsS I I') : Same fdS I I' := h.mono (fun _ _ q => Or.inl q)
theorem fd_no {I I' : MI} (h : Same fdS I I') {r : Nat} (h1 : ¬ (r = 704 ∨ r = 721 ∨ r = 722 ∨ r = 724 ∨ r = 725)) (h2 : r ≠ 738) : I' r 0 = I r 0 := h r 0 (fun q => q.elim (fun z => h1 z.1) (fun z => h2 z.1))
section MSoon
variable {d : Nat} {L : ML} {R : RD}
theorem c_M_finds (hR : WF R) : ∀ (l : Nat) {d g : Nat} {I : MI} {t : SA} {K : Int32 → MI → ML → Prop}, 6 + l ≤ d → MRo (I 706 0) R → MRs I R g t → (l = 0 → ∀ c, c < rC R → I 725 0 c = t.2.2.1 c) → OkS R t → g + l ≤ 5 →
    (rch R l t = none → ∀ I', (∀ j, j < 6 * (g + 2) → I' 724 0 j = I 724 0 j) → (0 < g → ∀ c, c < rC R → I' 725 0 c = 0) → I' 704 0 21 = I 704 0 21 → (∀ j, j < g → I' 738 0 j = I 738 0 j) → ofl I I' → Same fdS I I' → K 0 I' L) →
    (∀ x, rch R l t = some x → ∀ I', (∀ j, j < g → I' 738 0 j = I 738 0 j) → (∀ j, j < l → I' 738 0 (g + j) = nI (x.getD j 0)) → ofl I I' → Same fdS I I' → K 1 I' L) → CI d m_M_finds [vR 704 0, vI (nI g), vI (nI (g + l))] I L K := by
  have hC := hR.1
  have hW := hR.2.1
  intro l
  induction l with
  | zero =>
    intro d g I t K hd hM hg hq hok hgl h0 h1
    obtain ⟨hrow, hmm, hg0, hg1⟩ := hg
    refine toCI (n := 5) (by omega) (r_M_finds_0 ⟨fun q => absurd rfl q, fun _ => c_M_isCalm (by omega) hR hM (by omega) ⟨hrow, hq rfl, hmm⟩ hok (fun q => ⟨Or.inr rfl, _, rfl, h1 [] ?_ I (fun _ _ => rfl) (fun j hj => by omega) (fun _ _ _ => rfl) Same.rf⟩) (fun q => ⟨Or.inl rfl, _, rfl, h0 ?_ I (fun _ _ => rfl) (fun z c hc => (hg1 z c hc).2) rfl (fun _ _ => rfl) (fun _ _ _ => rfl) Same.rf⟩)⟩)
    · show (if calmB t = true then some [] else none) = some []
      rw [if_pos (calmB_iff.mpr q)]
    · show (if calmB t = true then some [] else none) = none
      rw [if_neg (fun z => q (calmB_iff.mp z))]
  | succ l ih =>
    intro d g I t K hd hM hg hq hok hgl h0 h1
    obtain ⟨hrow, ⟨m, hm, em, h21, ht⟩, hg0, hg1⟩ := hg
    have er : rch R (l + 1) t = fsN (fun d => rch R l (trn R t (nI d - 1))) (rW R + 1) 0 := rfl
    refine toCI (n := 6 + l) (by omega) (r_M_finds_0 ⟨fun _ => ?_, fun q => absurd ((nI_eq (by omega) (by omega)).mp (Classical.not_not.mp q)) (by omega)⟩)
    have key : ∀ (b k : Nat) (J : MI), k + b = rW R + 1 → fsN (fun d => rch R l (trn R t (nI d - 1))) b k = rch R (l + 1) t → (∀ j, j < 6 * (g + 2) → J 724 0 j = I 724 0 j) → (0 < g → ∀ c, c < rC R → J 725 0 c = 0) → J 704 0 21 = nI m → (∀ j, j < g → J 738 0 j = I 738 0 j) → ofl I J → Same fdS I J → XX (6 + l + 1) m_M_finds (fun r I' L' => ∃ x, r = some (vI x) ∧ K x I' L') 13 [vR 704 0, vI (nI g), vI (nI (g + (l + 1))), vI (nI k), vD] [] J L := by
      intro b
      induction b with
      | zero =>
        intro k J hk he hlo h25 j21 j38 ho hS
        have n6 : J 706 0 = I 706 0 := fd_no hS (by decide) (by decide)
        refine r_M_finds_13 ?_
        rw [n6, hM.2.1]
        exact ⟨fun _ => ⟨_, rfl, h0 he.symm J hlo h25 (by rw [j21, h21]) j38 ho hS⟩, fun q => absurd (nI_lt (show rW R < k by omega) (by omega)) q⟩
      | succ b ihb =>
        intro k J hk he hlo h25 j21 j38 ho hS
        have n6 : J 706 0 = I 706 0 := fd_no hS (by decide) (by decide)
        have step : ∀ J0 : MI, (∀ c, c < rC R → J0 725 0 c = t.2.2.1 c) → (∀ j, j < 6 * (g + 2) → J0 724 0 j = I 724 0 j) → J0 704 0 21 = nI m → (∀ j, j < g → J0 738 0 j = I 738 0 j) → ofl I J0 → Same fdS I J0 → CV (6 + l) m_M_goes [vR 704 0, vI (nI g), vI (nI k - (1 : Int32))] J0 L (fun I5 L6 => (vp_in (nI g) 5) ∧ (((nI g + (1 : Int32)) < (nI (g + (l + 1)) - (1 : Int32)) → (CI (6 + l) m_M_finds [vR 704 0, vI (nI g + (1 : Int32)), vI (nI (g + (l + 1)))] (ui I5 738 0 (nI g).toNatClampNeg (nI k)) L6 (fun x9 I7 L8 => (x9 = 0 → (XX (6 + l + 1) m_M_finds (fun r I' L' => ∃ x, r = some (vI x) ∧ K x I' L') 13 [vR 704 0, vI (nI g), vI (nI (g + (l + 1))), vI (nI k + 1), vD] [] I7 L8)) ∧ (¬ (x9 = 0) → (∃ x, some (vI 1) = some (vI x) ∧ K x I7 L8))))) ∧ (¬ ((nI g + (1 : Int32)) < (nI (g + (l + 1)) - (1 : Int32))) → (CI (6 + l) m_M_whoIn [vR 704 0, vI (nI g + (1 : Int32))] (ui I5 738 0 (nI g).toNatClampNeg (nI k)) L6 (fun x13 I11 L12 => (x13 = 0 → (CI (6 + l) m_M_finds [vR 704 0, vI (nI g + (1 : Int32)), vI (nI (g + (l + 1)))] I11 L12 (fun x16 I14 L15 => (x16 = 0 → (XX (6 + l + 1) m_M_finds (fun r I' L' => ∃ x, r = some (vI x) ∧ K x I' L') 13 [vR 704 0, vI (nI g), vI (nI (g + (l + 1))), vI (nI k + 1), vD] [] I14 L15)) ∧ (¬ (x16 = 0) → (∃ x, some (vI 1) = some (vI x) ∧ K x I14 L15))))) ∧ (¬ (x13 = 0) → (XX (6 + l + 1) m_M_finds (fun r I' L' => ∃ x, r = some (vI x) ∧ K x I' L') 13 [vR 704 0, vI (nI g), vI (nI (g + (l + 1))), vI (nI k + 1), vD] [] I11 L12))))))) := by
          intro J0 q25 qlo q21 q38 qo qS
          have n60 : J0 706 0 = I 706 0 := fd_no qS (by decide) (by decide)
          have n30 : J0 723 0 = I 723 0 := fd_no qS (by decide) (by decide)
          refine c_M_goes (s := t) (r := g) (by omega) hR (by rw [n60]; exact hM) (by omega) ⟨fun c hc => ⟨by rw [qlo _ (by omega)]; exact (hrow c hc).1, by rw [qlo _ (by omega)]; exact (hrow c hc).2⟩, q25, m, hm, em, q21, fun w hw => by rw [n30]; exact ht w hw⟩ (hok.1.mono (by omega)) (fun J1 hG1 hlo1 ho1 hS1 => ?_)
          obtain ⟨r1, r2, m1, hm1, em1, e21, ht1⟩ := hG1
          have em' : m1 = m := (nI_eq (by omega) (by omega)).mp (em1.symm.trans em)
          subst em'
          have n61 : J1 706 0 = I 706 0 := (gs_no hS1 (by decide)).trans n60
          have n381 : J1 738 0 = J0 738 0 := gs_no hS1 (by decide)
          have eg1 : nI g + (1 : Int32) = nI (g + 1) := nI_add g 1
          have ek1 : nI k + (1 : Int32) = nI (k + 1) := nI_add k 1
          have egl : nI (g + (l + 1)) - (1 : Int32) = nI (g + l) := nI_sub (a := g + (l + 1)) (b := 1) (by omega)
          rw [eg1, ek1, egl, cl_n (by omega)]
          have okt := trn_Ok hR (out := nI k - 1) hok
          have nxt : rch R l (trn R t (nI k - 1)) = none → ∀ J2 : MI, (∀ j, j < 6 * (g + 2) → J2 724 0 j = J1 724 0 j) → (∀ c, c < rC R → J2 725 0 c = 0) → J2 704 0 21 = nI m1 → (∀ j, j < g → J2 738 0 j = J1 738 0 j) → ofl J1 J2 → Same fdS J1 J2 → XX (6 + l + 1) m_M_finds (fun r I' L' => ∃ x, r = some (vI x) ∧ K x I' L') 13 [vR 704 0, vI (nI g), vI (nI (g + (l + 1))), vI (nI (k + 1)), vD] [] J2 L := by
            intro e J2 a1 a2 a3 a4 a5 a6
            exact ihb (k + 1) J2 (by omega) (by rw [← he, fsN_n e]) (fun j hj => by rw [a1 j hj, hlo1 j hj]; exact qlo j hj) (fun _ => a2) a3 (fun j hj => by rw [a4 j hj, n381]; exact q38 j hj) ((qo.tr ho1).tr a5) ((qS.tr (gs_fd hS1)).tr a6)
          have hu : Same fdS J1 (ui J1 738 0 g (nI k)) := Same.rf.ui (Or.inr ⟨rfl, rfl⟩)
          have u38 : ∀ r, r ≠ 738 → ui J1 738 0 g (nI k) r 0 = J1 r 0 := fun r hr => ui_off (fun q => hr q.1)
          have fnd : CI (6 + l) m_M_finds [vR 704 0, vI (nI (g + 1)), vI (nI (g + (l + 1)))] (ui J1 738 0 g (nI k)) L (fun x9 I7 L8 => (x9 = 0 → (XX (6 + l + 1) m_M_finds (fun r I' L' => ∃ x, r = some (vI x) ∧ K x I' L') 13 [vR 704 0, vI (nI g), vI (nI (g + (l + 1))), vI (nI (k + 1)), vD] [] I7 L8)) ∧ (¬ (x9 = 0) → (∃ x, some (vI 1) = some (vI x) ∧ K x I7 L8))) := by
            rw [show g + (l + 1) = g + 1 + l by omega]
            refine ih (g := g + 1) (t := trn R t (nI k - 1)) (by omega) (by rw [u38 706 (by decide), n61]; exact hM) ⟨fun c hc => by rw [u38 724 (by decide)]; exact r1 c hc, ⟨m1, hm, em1, by rw [u38 704 (by decide)]; exact e21, fun w hw => by rw [u38 723 (by decide)]; exact ht1 w hw⟩, fun z => by omega, fun _ c hc => ⟨rfl, by rw [u38 725 (by decide)]; exact r2 c hc⟩⟩ (fun _ c hc => by rw [u38 725 (by decide)]; exact r2 c hc) okt (by omega) (fun e J2 a1 a2 a3 a4 a5 a6 => ⟨fun _ => ?_, fun z => absurd rfl z⟩) (fun x e J2 a4 ax a5 a6 => ⟨fun z => absurd z (by decide), fun _ => ⟨_, rfl, ?_⟩⟩)
            · have := nxt e J2 (fun j hj => by rw [a1 j (by omega), u38 724 (by decide)]) (a2 (by omega)) (by rw [a3, u38 704 (by decide)]; exact e21) (fun j hj => by rw [a4 j (by omega), ui_k (by omega)]) (fun j x y => by rw [a5 j x y, u38 704 (by decide)]) (hu.tr a6)
              rw [show g + (l + 1) = g + 1 + l by omega] at this
              exact this
            · refine h1 (k :: x) (by rw [← he, fsN_y e]) J2 (fun j hj => by rw [a4 j (by omega), ui_k (by omega), n381]; exact q38 j hj) (fun j hj => ?_) ((qo.tr ho1).tr (fun j x y => by rw [a5 j x y, u38 704 (by decide)])) ((qS.tr (gs_fd hS1)).tr (hu.tr a6))
              cases j with
              | zero => rw [Nat.add_zero, a4 g (by omega), ui_s]; rfl
              | succ j => rw [show g + (j + 1) = g + 1 + j by omega, ax j (by omega)]; rfl
          refine ⟨vin (by omega) (by omega), fun _ => fnd, fun q => ?_⟩
          have hl1 : l ≤ 1 := by
            rcases Nat.lt_or_ge 1 l with z | z
            · exact absurd (nI_lt (show g + 1 < g + l by omega) (by omega)) q
            · exact z
          refine c_M_whoIn (r := g + 1 + 1) (by omega) (nI_add (g + 1) 1) (by omega) (by rw [u38 706 (by decide), n61]; exact hM.1) hC ?_
          have eW : whoN (fun c => ui J1 738 0 g (nI k) 724 0 (6 * (g + 1 + 1) + c)) (rC R) = whoN (trn R t (nI k - 1)).1 6 := by
            rw [who6 hR okt.2]
            exact whoN_eq _ (fun c hc => by show ui J1 738 0 g (nI k) 724 0 (6 * (g + 1 + 1) + c) = _; rw [u38 724 (by decide)]; exact (r1 c hc).1)
          rw [eW]
          refine ⟨fun _ => fnd, fun y => nxt ?_ _ (fun j _ => by rw [u38 724 (by decide)]) (fun c hc => by rw [u38 725 (by decide)]; exact r2 c hc) (by rw [u38 704 (by decide)]; exact e21) (fun j hj => ui_k (by omega)) (fun j _ _ => by rw [u38 704 (by decide)]) hu⟩
          have hex : ∃ c, c < 6 ∧ 0 < (trn R t (nI k - 1)).1 c := Classical.byContradiction (fun z => y ((who0 6 (by omega)).mpr (fun c hc hp => z ⟨c, hc, hp⟩)))
          have : l = 0 ∨ l = 1 := by omega
          rcases this with z | z
          · rw [z]; exact rch_0 hex
          · rw [z]; exact rch_1 hex
        refine r_M_finds_13 ?_
        rw [n6, hM.2.1]
        refine ⟨fun q => absurd q (nI_nlt (show k ≤ rW R by omega) (by omega)), fun _ => ⟨fun q => ?_, fun q => ?_⟩⟩
        · have hgp : 0 < g := by
            rcases Nat.eq_zero_or_pos g with z | z
            · subst z; exact absurd rfl q
            · exact z
          exact step J (fun c hc => by rw [h25 hgp c hc]; exact (hg1 hgp c hc).1.symm) hlo j21 j38 ho hS
        · have hgz : g = 0 := (nI_eq (b := 0) (by omega) (by omega)).mp (Classical.not_not.mp q)
          have inner : ∀ (a e : Nat) (J0 : MI), e + a = 6 → (∀ c, c < e → J0 725 0 c = t.2.2.1 c) → (∀ j, j < 6 * (g + 2) → J0 724 0 j = I 724 0 j) → J0 704 0 21 = nI m → (∀ j, j < g → J0 738 0 j = I 738 0 j) → ofl I J0 → Same fdS I J0 → XX (6 + l + 1) m_M_finds (fun r I' L' => ∃ x, r = some (vI x) ∧ K x I' L') 30 [vR 704 0, vI (nI g), vI (nI (g + (l + 1))), vI (nI k), vI (nI e)] [] J0 L := by
            intro a
            induction a with
            | zero =>
              intro e J0 he6 q25 qlo q21 q38 qo qS
              have e6 : e = 6 := by omega
              subst e6
              exact r_M_finds_30 ⟨fun _ => step J0 (fun c hc => q25 c (by omega)) qlo q21 q38 qo qS, fun z => absurd (by decide) z⟩
            | succ a iha =>
              intro e J0 he6 q25 qlo q21 q38 qo qS
              have n60 : J0 706 0 = I 706 0 := fd_no qS (by decide) (by decide)
              have e74 : (74 : Int32) + nI e = nI (74 + e) := nI_add 74 e
              refine r_M_finds_30 ?_
              rw [e74, cl_n (j := 74 + e) (by omega), cl_n (j := e) (by omega), n60, hg0 hgz e (by omega), nI_1 (a := e)]
              refine ⟨fun z => absurd z (nle_c (m := 6) (by omega) (by omega)), fun _ => ⟨vin (by omega) (by omega), vin (by omega) (by omega), iha (e + 1) _ (by omega) (fun c hc => ?_) (fun j hj => by rw [ui_r (by decide)]; exact qlo j hj) (by rw [ui_r (by decide)]; exact q21) (fun j hj => by rw [ui_r (by decide)]; exact q38 j hj) (fun j x y => by rw [ui_r (by decide)]; exact qo j x y) (qS.ui (Or.inl ⟨by simp, rfl⟩))⟩⟩
              by_cases y : c = e
              · subst y; rw [ui_s]
              · rw [ui_k y]; exact q25 c (by omega)
          exact inner 6 0 J (by omega) (fun c hc => by omega) hlo j21 j38 ho hS
    exact key (rW R + 1) 0 I (by omega) er.symm (fun j _ => rfl) (fun z c hc => (hg1 z c hc).2) h21 (fun _ _ => rfl) (fun j _ _ => rfl) Same.rf
end MSoon

/-! the fewest rounds to be calm -/
def fsN (g : Nat → Option (List Nat)) : Nat → Nat → Option (List Nat)
  | 0, _ => none
  | n + 1, k => match g k with
    | some x => some (k :: x)
    | none => fsN g n (k + 1)
theorem fsN_y {g : Nat → Option (List Nat)} {n k : Nat} {x : List Nat} (h : g k = some x) : fsN g (n + 1) k = some (k :: x) := by
  show (match g k with | some x => some (k :: x) | none => fsN g n (k + 1)) = _
  rw [h]
theorem fsN_n {g : Nat → Option (List Nat)} {n k : Nat} (h : g k = none) : fsN g (n + 1) k = fsN g n (k + 1) := by
  show (match g k with | some x => some (k :: x) | none => fsN g n (k + 1)) = _
  rw [h]
theorem fsN_none {g : Nat → Option (List Nat)} (h : ∀ d, g d = none) : ∀ n k, fsN g n k = none
  | 0, _ => rfl
  | n + 1, k => by rw [fsN_n (h k)]; exact fsN_none h n (k + 1)
/-- the first row of l deeds behind which it is calm -/
def rch (R : RD) : Nat → SA → Option (List Nat)
  | 0, s => if calmB s = true then some [] else none
  | l + 1, s => fsN (fun d => rch R l (trn R s (nI d - 1))) (rW R + 1) 0
theorem rch_1 {R : RD} {s : SA} (h : ∃ c, c < 6 ∧ 0 < s.1 c) : rch R 1 s = none := by
  refine fsN_none (fun d => ?_) _ _
  show (if calmB (trn R s (nI d - 1)) = true then some [] else none) = none
  rw [if_neg (fun z => ?_)]
  obtain ⟨c, hc, hp⟩ := h
  exact (calmB_iff.mp z c hc).2.1 hp
theorem rch_0 {R : RD} {s : SA} (h : ∃ c, c < 6 ∧ 0 < s.1 c) : rch R 0 s = none := by
  show (if calmB s = true then some [] else none) = none
  rw [if_neg (fun z => ?_)]
  obtain ⟨c, hc, hp⟩ := h
  exact (calmB_iff.mp z c hc).1 hp
theorem fsN_len {g : Nat → Option (List Nat)} {l : Nat} (hg : ∀ d x, g d = some x → x.length = l) : ∀ n k x, fsN g n k = some x → x.length = l + 1
  | 0, _, _, h => by cases h
  | n + 1, k, x, h => by
    cases e : g k with
    | none => rw [fsN_n e] at h; exact fsN_len hg n (k + 1) x h
    | some y => rw [fsN_y e] at h; cases h; rw [List.length_cons, hg k y e]
theorem rch_len {R : RD} : ∀ l s x, rch R l s = some x → x.length = l := by
  intro l
  induction l with
  | zero =>
    intro s x h
    have h : (if calmB s = true then some [] else none) = some x := h
    by_cases q : calmB s = true
    · rw [if_pos q] at h; cases h; rfl
    · rw [if_neg q] at h; cases h
  | succ l ih =>
    intro s x h
    exact fsN_len (fun d y e => ih _ y e) _ _ _ h
def lbS (i : Nat) : Nat → Nat → Prop := fun r a => lvS i r a ∨ (r = 516 ∧ a = 0)
theorem lb_lb {i k : Nat} (h1 : i ≤ k) {I I' : MI} (h : Same (lbS k) I I') : Same (lbS i) I I' := h.mono (fun r a q => q.elim (fun z => Or.inl (z.elim Or.inl (fun y => Or.inr ⟨y.1, by omega, y.2.2⟩))) Or.inr)
theorem lb_lv {i : Nat} {I I' : MI} (h : Same (lvS i) I I') : Same (lbS i) I I' := h.mono (fun _ _ q => Or.inl q)
theorem lb_road {i r k : Nat} (h1 : 128 ≤ r) (h2 : r ≤ 135) : ¬ lbS i r k := fun q => q.elim (lv_road h1 h2) (fun z => by omega)
theorem lb_st {i r k : Nat} (h1 : 256 ≤ r) (h2 : r ≤ 259) (h : k ≤ i) : ¬ lbS i r k := fun q => q.elim (lv_st h1 h2 h) (fun z => by omega)
theorem StA.lb {I I' : MI} {i k : Nat} {s : SA} (h : StA I k s) (hS : Same (lbS i) I I') (hk : k ≤ i) : StA I' k s := h.same hS (lb_st (by omega) (by omega) hk) (lb_st (by omega) (by omega) hk) (lb_st (by omega) (by omega) hk) (lb_st (by omega) (by omega) hk)
theorem GoA_516 {I : MI} {R : RD} {k : Nat} {x : Int32} (h : GoA I R) : GoA (ui I 516 0 k x) R := by
  have n : ∀ r, r ≠ 516 → ui I 516 0 k x r 0 = I r 0 := fun r hr => ui_off (fun q => hr q.1)
  have e8 : ui I 516 0 k x 320 0 8 = I 320 0 8 := by rw [n 320 (by decide)]
  have ek : knA (ui I 516 0 k x) R := fun w hw j hj => by rw [n 328 (by decide)]; exact h.2.2.2 w hw j hj
  exact GoA_of h (n 325 (by decide)) (fun c _ _ => by rw [n 326 (by decide)]) e8 (n 323 (by decide)) (n 324 (by decide)) ek
section Reach
variable {d : Nat} {L : ML} {R : RD}
theorem c_Br_isReached (hR : WF R) : ∀ (l : Nat) {d i : Nat} {I : MI} {s : SA} {K : Int32 → MI → ML → Prop}, 8 + l ≤ d → RoadA I 0 R → GoA I R → StA I (3 + i) s → OkS R s → i + l ≤ 5 →
    (rch R l s = none → ∀ I', GoA I' R → (∀ j, j < i → I' 516 0 j = I 516 0 j) → Same (lbS (3 + i)) I I' → K 0 I' L) →
    (∀ x, rch R l s = some x → ∀ I', GoA I' R → (∀ j, j < i → I' 516 0 j = I 516 0 j) → (∀ j, j < l → I' 516 0 (i + j) = nI (x.getD j 0)) → Same (lbS (3 + i)) I I' → K 1 I' L) → CI d m_Br_isReached [vR 512 0, vI (nI i), vI (nI l)] I L K := by
  have hC := hR.1
  have hW := hR.2.1
  intro l
  induction l with
  | zero =>
    intro d i I s K hd hA hG hs hok hil h0 h1
    refine toCI (n := 7) (by omega) (r_Br_isReached_0 ⟨fun _ => ⟨fun q => absurd q (nlt0 (by omega)), fun _ => ⟨fun q => absurd q (nI_nlt (a := 5) (b := i) (by omega) (by omega)), fun _ => ⟨vin (by omega) (by omega), ?_⟩⟩⟩, fun q => absurd (by decide) q⟩)
    rw [cl_n (by omega)]
    have hcal : calmS (stOf I (3 + i)) ↔ calmS s := by
      unfold calmS
      constructor
      · intro q c hc
        have := q c hc
        have a1 : (stOf I (3 + i)).1 c = s.1 c := hs.1 c hc
        have a2 : (stOf I (3 + i)).2.1 c = s.2.1 c := hs.2.1 c hc
        have a3 : (stOf I (3 + i)).2.2.1 c = s.2.2.1 c := hs.2.2.1 c hc
        rw [a1, a2, a3] at this
        exact this
      · intro q c hc
        have a1 : (stOf I (3 + i)).1 c = s.1 c := hs.1 c hc
        have a2 : (stOf I (3 + i)).2.1 c = s.2.1 c := hs.2.1 c hc
        have a3 : (stOf I (3 + i)).2.2.1 c = s.2.2.1 c := hs.2.2.1 c hc
        rw [a1, a2, a3]
        exact q c hc
    refine c_St_isCalm (by omega) (fun q => ⟨fun z => absurd z (by decide), fun _ => ⟨_, rfl, h1 [] ?_ I hG (fun _ _ => rfl) (fun j hj => by omega) Same.rf⟩⟩) (fun q => ⟨fun _ => ⟨_, rfl, h0 ?_ I hG (fun _ _ => rfl) Same.rf⟩, fun z => absurd rfl z⟩)
    · show (if calmB s = true then some [] else none) = some []
      rw [if_pos (calmB_iff.mpr (hcal.mp q))]
    · show (if calmB s = true then some [] else none) = none
      rw [if_neg (fun z => q (hcal.mpr (calmB_iff.mp z)))]
  | succ l ih =>
    intro d i I s K hd hA hG hs hok hil h0 h1
    have el : nI (l + 1) - (1 : Int32) = nI l := nI_sub (a := l + 1) (b := 1) (by omega)
    have er : rch R (l + 1) s = fsN (fun d => rch R l (trn R s (nI d - 1))) (rW R + 1) 0 := rfl
    have e0 : nI 0 - (1 : Int32) = -1 := by decide
    have child : ∀ (dd : Nat) (J : MI), RoadA J 0 R → GoA J R → StA J (3 + i + 1) (trn R s (nI dd - 1)) → (∀ j, j < i → J 516 0 j = I 516 0 j) → Same (lbS (3 + i)) I J →
        (rch R l (trn R s (nI dd - 1)) = none → ∀ J1, GoA J1 R → (∀ j, j < i → J1 516 0 j = I 516 0 j) → Same (lbS (3 + i)) I J1 → XX (8 + l + 1) m_Br_isReached (fun r I' L' => ∃ x, r = some (vI x) ∧ K x I' L') 91 [vR 512 0, vI (nI i), vI (nI (l + 1)), vI (cbN (fun c => csO R s (-1) c) (rC R)), vI (nI dd)] [] J1 L) →
        (∀ x, rch R l (trn R s (nI dd - 1)) = some x → rch R (l + 1) s = some (dd :: x)) →
        CI (8 + l) m_Br_isReached [vR 512 0, vI (nI (i + 1)), vI (nI l)] (ui J 516 0 i (nI dd)) L (fun x18 I16 L17 => (x18 = 0 → (XX (8 + l + 1) m_Br_isReached (fun r I' L' => ∃ x, r = some (vI x) ∧ K x I' L') 91 [vR 512 0, vI (nI i), vI (nI (l + 1)), vI (cbN (fun c => csO R s (-1) c) (rC R)), vI (nI dd)] [] I16 L17)) ∧ (¬ (x18 = 0) → (∃ x, some (vI 1) = some (vI x) ∧ K x I16 L17))) := by
      intro dd J hAJ hGJ hsJ hj hSJ hno hyes
      have hu : Same (lbS (3 + i)) J (ui J 516 0 i (nI dd)) := Same.rf.ui (Or.inr ⟨rfl, rfl⟩)
      refine ih (i := i + 1) (by omega) (hAJ.same hu (fun r a b => lb_road a b)) (GoA_516 hGJ) (hsJ.same (S := fun r a => r = 516 ∧ a = 0) (Same.rf.ui ⟨rfl, rfl⟩) (fun q => absurd q.1 (by decide)) (fun q => absurd q.1 (by decide)) (fun q => absurd q.1 (by decide)) (fun q => absurd q.1 (by decide))) (trn_Ok hR hok) (by omega) (fun e J1 hG1 hj1 hS1 => ⟨fun _ => hno e J1 hG1 (fun j q => ?_) ((hSJ.tr hu).tr (lb_lb (by omega) hS1)), fun z => absurd rfl z⟩) (fun x e J1 hG1 hj1 hx1 hS1 => ⟨fun z => absurd z (by decide), fun _ => ⟨_, rfl, h1 (dd :: x) (hyes x e) J1 hG1 (fun j q => ?_) (fun j q => ?_) ((hSJ.tr hu).tr (lb_lb (by omega) hS1))⟩⟩)
      · rw [hj1 j (by omega), ui_k (by omega)]; exact hj j q
      · rw [hj1 j (by omega), ui_k (by omega)]; exact hj j q
      · cases j with
        | zero => rw [Nat.add_zero, hj1 i (by omega), ui_s]; rfl
        | succ j => rw [show i + (j + 1) = i + 1 + j by omega, hx1 j (by omega)]; rfl
    have loop : rch R l (trn R s (-1)) = none → ∀ (m w : Nat) (J : MI), w + m = rW R → fsN (fun d => rch R l (trn R s (nI d - 1))) m (w + 1) = rch R (l + 1) s → GoA J R → (∀ j, j < i → J 516 0 j = I 516 0 j) → Same (lbS (3 + i)) I J → XX (8 + l + 1) m_Br_isReached (fun r I' L' => ∃ x, r = some (vI x) ∧ K x I' L') 91 [vR 512 0, vI (nI i), vI (nI (l + 1)), vI (cbN (fun c => csO R s (-1) c) (rC R)), vI (nI w)] [] J L := by
      intro hnone m
      induction m with
      | zero =>
        intro w J hw he hGJ hj hSJ
        have hAJ := hA.same hSJ (fun r a b => lb_road a b)
        refine r_Br_isReached_91 ?_
        rw [hAJ.2.1]
        exact ⟨fun _ => ⟨_, rfl, h0 he.symm J hGJ hj hSJ⟩, fun q => absurd (nI_le (show rW R ≤ w by omega) (by omega)) q⟩
      | succ m ihm =>
        intro w J hw he hGJ hj hSJ
        have hAJ := hA.same hSJ (fun r a b => lb_road a b)
        have eb1 := cb_bit hR (s := s) (w := w) (by omega) (rC R)
        have e1 : nI (w + 1) - (1 : Int32) = nI w := nI_sub (a := w + 1) (b := 1) (by omega)
        refine r_Br_isReached_91 ?_
        rw [hAJ.2.1, eb1, nI_1 (a := w)]
        refine ⟨fun q => absurd q (nI_ge (show w < rW R by omega) (by omega)), fun _ => ⟨fun q => ?_, fun q => ?_⟩⟩
        · have hno : caN R s w = false := by
            cases z : caN R s w with
            | false => rfl
            | true =>
              have z : ((List.range (rC R)).any fun c => decide (csO R s (-1) c = nI w)) = true := z
              rw [if_pos z] at q
              exact absurd q (by decide)
          refine ihm (w + 1) J (by omega) ?_ hGJ hj hSJ
          rw [← he, fsN_n]
          show rch R l (trn R s (nI (w + 1) - 1)) = none
          rw [e1, caN_no hR (by omega) hno]
          exact hnone
        · refine c_Br_stepOn (by omega) hR hAJ hGJ (hs.lb hSJ (Nat.le_refl _)) (by omega) (show 9 ≤ 1000 by omega) hok.1 (fun J1 hs1 hG1 hS1 => ?_)
          have n516 : J1 516 0 = J 516 0 := hS1 516 0 (fun z => by
            rcases z with y | y
            · rcases y.1 with x | x | x | x | x | x | x | x | x <;> omega
            · rcases y.1 with x | x | x | x <;> omega)
          rw [nI_1 (a := i), el, cl_n (by omega)]
          refine ⟨vin (by omega) (by omega), child (w + 1) J1 (hAJ.same hS1 (fun r a b => lv_road a b)) hG1 (by rw [e1]; exact hs1) (fun j q => by rw [n516]; exact hj j q) (hSJ.tr (lb_lv hS1)) (fun e J2 hG2 hj2 hS2 => ihm (w + 1) J2 (by omega) (by rw [← he, fsN_n e]) hG2 hj2 hS2) (fun x e => by rw [← he, fsN_y e])⟩
    have body : ∀ J : MI, J = I → CI (8 + l) m_Br_stepOn [vR 512 0, vI (nI i), vI (-1)] J L (fun x15 I13 L14 => (vp_in (nI i) 5) ∧ (CI (8 + l) m_Br_isReached [vR 512 0, vI (nI i + (1 : Int32)), vI (nI (l + 1) - (1 : Int32))] (ui I13 516 0 (nI i).toNatClampNeg 0) L14 (fun x18 I16 L17 => (x18 = 0 → (XX (8 + l + 1) m_Br_isReached (fun r I' L' => ∃ x, r = some (vI x) ∧ K x I' L') 91 [vR 512 0, vI (nI i), vI (nI (l + 1)), vI x15, vI 0] [] I16 L17)) ∧ (¬ (x18 = 0) → (∃ x, some (vI 1) = some (vI x) ∧ K x I16 L17))))) := by
      intro J eJ
      subst eJ
      refine c_Br_stepOn (by omega) hR hA hG hs (by omega) (show 9 ≤ 1000 by omega) hok.1 (fun J1 hs1 hG1 hS1 => ?_)
      have n516 : J1 516 0 = J 516 0 := hS1 516 0 (fun z => by
        rcases z with y | y
        · rcases y.1 with x | x | x | x | x | x | x | x | x <;> omega
        · rcases y.1 with x | x | x | x <;> omega)
      rw [nI_1 (a := i), el, cl_n (by omega)]
      refine ⟨vin (by omega) (by omega), child 0 J1 (hA.same hS1 (fun r a b => lv_road a b)) hG1 (by rw [e0]; exact hs1) (fun j q => by rw [n516]) (lb_lv hS1) (fun e J2 hG2 hj2 hS2 => ?_) (fun x e => by rw [er, fsN_y e])⟩
      refine loop (by rw [e0] at e; exact e) (rW R) 0 J2 (by omega) ?_ hG2 hj2 hS2
      rw [er, fsN_n e]
    refine toCI (n := 8 + l) (by omega) (r_Br_isReached_0 ⟨fun q => absurd q (nI_ge (a := 0) (b := l + 1) (by omega) (by omega)), fun _ => ⟨fun q => absurd q (nlt0 (by omega)), fun _ => ⟨fun _ => ⟨fun _ => body I rfl, fun q1 => ⟨vin (by omega) (by omega), ?_⟩⟩, fun q => absurd (nI_lt (a := i) (b := 5) (by omega) (by omega)) q⟩⟩⟩)
    have hl : l = 0 := by
      have := (nI_eq (a := l + 1) (b := 1) (by omega) (by omega)).mp (Classical.not_not.mp q1)
      omega
    rw [cl_n (j := i) (by omega)]
    have bd := body I rfl
    rw [cl_n (by omega)] at bd
    refine c_St_isQuiet (by omega) (fun _ => ⟨fun _ => bd, fun z => absurd (by decide) z⟩) (fun y => ⟨fun z => absurd rfl z, fun _ => ⟨_, rfl, h0 ?_ I hG (fun _ _ => rfl) Same.rf⟩⟩)
    obtain ⟨c, hc, hp⟩ := y
    rw [hl]
    exact rch_1 ⟨c, hc, by rw [← hs.1 c hc]; exact hp⟩
end Reach

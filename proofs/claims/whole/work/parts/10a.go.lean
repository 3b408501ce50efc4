/-! Going, many rounds; its order -/
def eqS (s t : SA) : Prop := (∀ c, c < 6 → s.1 c = t.1 c ∧ s.2.1 c = t.2.1 c ∧ s.2.2.1 c = t.2.2.1 c) ∧ s.2.2.2.1 = t.2.2.2.1 ∧ s.2.2.2.2 = t.2.2.2.2
def eq4 (s t : SA) : Prop := (∀ c, c < 6 → s.1 c = t.1 c ∧ s.2.1 c = t.2.1 c ∧ s.2.2.1 c = t.2.2.1 c) ∧ s.2.2.2.1 = t.2.2.2.1
theorem StA.eqS {I : MI} {i : Nat} {s t : SA} (h : StA I i s) (e : eqS s t) : StA I i t := by
  refine ⟨fun c hc => ?_, fun c hc => ?_, fun c hc => ?_, ?_, ?_⟩
  · rw [h.1 c hc]; exact (e.1 c hc).1
  · rw [h.2.1 c hc]; exact (e.1 c hc).2.1
  · rw [h.2.2.1 c hc]; exact (e.1 c hc).2.2
  · rw [h.2.2.2.1]; exact e.2.1
  · rw [h.2.2.2.2]; exact e.2.2
theorem fold_eq {α β : Type} {f g : β → α → β} : ∀ (l : List α) (b : β), (∀ b, ∀ x ∈ l, f b x = g b x) → l.foldl f b = l.foldl g b
  | [], _, _ => rfl
  | x :: l, b, h => by
    rw [List.foldl_cons, List.foldl_cons, h b x List.mem_cons_self]
    exact fold_eq l _ (fun b y hy => h b y (List.mem_cons_of_mem _ hy))
theorem best_eq {R : RD} (hR : WF R) {mud out : Int32} {fr la ea la' ea' : Nat → Int32} {c : Nat} (h1 : ∀ k, k < 6 → la k = la' k) (h2 : ∀ k, k < 6 → ea k = ea' k) : best R mud out fr la ea c = best R mud out fr la' ea' c := by
  unfold best
  refine fold_eq _ _ (fun b w hw => ?_)
  obtain ⟨hwR, _⟩ := wts_mem.mp hw
  have hf := (hR.2.2.1 w hwR).1
  have hC := hR.1
  have e : alO R mud w fr la ea = alO R mud w fr la' ea' := by
    unfold alO
    rw [h1 _ (by omega), h2 _ (by omega)]
  unfold bst
  rw [e]
theorem fsh_eq {R : RD} (hR : WF R) {s t : SA} {out : Int32} (e : eq4 s t) : ∀ n, n ≤ 6 → fsh R s out n = fsh R t out n := by
  intro n
  induction n with
  | zero => intro _; rfl
  | succ n ih =>
    intro hn
    have ih := ih (by omega)
    funext c
    simp only [fsh]
    rw [ih, e.2, best_eq hR (fun k hk => (e.1 k hk).1) (fun k hk => (e.1 k hk).2.1), (e.1 n (by omega)).2.2]
theorem frO_eq {R : RD} (hR : WF R) {s t : SA} {out : Int32} (e : eq4 s t) : frO R s out = frO R t out := by
  funext c
  unfold frO
  rw [fsh_eq hR e _ hR.1]
theorem csO_eq {R : RD} (hR : WF R) {s t : SA} {out : Int32} (e : eq4 s t) {c : Nat} (hc : c ≤ 6) : csO R s out c = csO R t out c := by
  unfold csO
  rw [fsh_eq hR e _ hc, e.2, best_eq hR (fun k hk => (e.1 k hk).1) (fun k hk => (e.1 k hk).2.1)]
theorem trn_eq {R : RD} (hR : WF R) {s t : SA} {out : Int32} (e : eqS s t) : eqS (trn R s out) (trn R t out) := by
  have ef := frO_eq hR (out := out) (s := s) (t := t) ⟨e.1, e.2.1⟩
  refine ⟨fun c hc => ⟨?_, (e.1 c hc).1, rfl⟩, e.2.1, ?_⟩
  · show frO R s out c = frO R t out c
    rw [ef]
  · show s.2.2.2.2 + 1 = t.2.2.2.2 + 1
    rw [e.2.2]
/-- behind n rounds -/
def itN (R : RD) (s : SA) : Nat → SA
  | 0 => s
  | n + 1 => trn R (itN R s n) (-1)
theorem itN_add {R : RD} {s : SA} (k : Nat) : ∀ j, itN R s (k + j) = itN R (itN R s k) j
  | 0 => rfl
  | j + 1 => by
    show trn R (itN R s (k + j)) (-1) = trn R (itN R (itN R s k) j) (-1)
    rw [itN_add k j]
theorem SR.mono {R : RD} {s : SA} {a b : Nat} (h : SR R s a) (hab : a ≤ b) : SR R s b := ⟨fun c hc => ⟨(h.1 c hc).1, (h.1 c hc).2.1, (h.1 c hc).2.2.mono (by omega) (by omega)⟩, h.2⟩
theorem itN_SR {R : RD} (hR : WF R) {s : SA} {hb : Nat} (hh : hb ≤ 1000) (hs : SR R s hb) : ∀ n, SR R (itN R s n) hb
  | 0 => hs
  | n + 1 => (trn_SR hR hh (itN_SR hR hh hs n)).mono (by omega)
theorem stay_it {R : RD} (hR : WF R) {s : SA} (h : stays s (frO R s (-1)) 6) : ∀ j, eqS (itN R s j) (s.1, s.2.1, s.2.2.1, s.2.2.2.1, s.2.2.2.2 + nI j) := by
  intro j
  induction j with
  | zero => exact ⟨fun _ _ => ⟨rfl, rfl, rfl⟩, rfl, (Int32.add_zero _).symm⟩
  | succ j ih =>
    have ef := frO_eq hR (out := -1) (s := itN R s j) (t := s) ⟨ih.1, ih.2.1⟩
    refine ⟨fun c hc => ⟨?_, ?_, (h c hc).2.2.symm⟩, ih.2.1, ?_⟩
    · show frO R (itN R s j) (-1) c = s.1 c
      rw [ef]; exact (h c hc).1.symm
    · show (itN R s j).1 c = s.2.1 c
      rw [(h c hc).2.1]; exact (ih.1 c hc).1
    · show (itN R s j).2.2.2.2 + 1 = s.2.2.2.2 + nI (j + 1)
      rw [ih.2.2, ← nI_add j 1, ← Int32.add_assoc]; rfl
section Go2
variable {d i : Nat} {I : MI} {L : ML} {R : RD} {s : SA}
theorem tuS_road {r k : Nat} (h1 : 128 ≤ r) (h2 : r ≤ 135) : ¬ tuS i r k := fun q => q.elim (goS_road h1 h2) (fun z => by rcases z.1 with y | y | y | y <;> omega)
theorem GoA_st {I I' : MI} (h : GoA I R) (hs : Same (stS i) I I') : GoA I' R := by
  have n : ∀ r, ¬ (256 ≤ r ∧ r ≤ 259) → I' r 0 = I r 0 := fun r hr => hs r 0 (fun q => hr (by rcases q.1 with z | z | z | z <;> omega))
  have e8 : I' 320 0 8 = I 320 0 8 := by rw [n 320 (by omega)]
  have ek : knA I' R := fun w hw k hk => by rw [n 328 (by omega)]; exact h.2.2.2 w hw k hk
  exact GoA_of h (n 325 (by omega)) (fun c _ _ => by rw [n 326 (by omega)]) e8 (n 323 (by omega)) (n 324 (by omega)) ek
theorem c_Go_go {n hb : Nat} {K : MI → ML → Prop} (hd : 6 ≤ d) (hR : WF R) (hA : RoadA I 0 R) (hG : GoA I R) (hs : StA I i s) (hh : hb ≤ 1000) (hSR : SR R s hb) (hn : n < 2 ^ 30) (h : ∀ I', StA I' i (itN R s n) → GoA I' R → Same (tuS i) I I' → K I' L) : CV d m_Go_go [vR 320 0, vR 256 i, vI (nI n)] I L K := by
  refine toCV (n := 5) hd (r_Go_go_0 ?_)
  have key : ∀ (l k : Nat) (J : MI), k + l = n → StA J i (itN R s k) → GoA J R → Same (tuS i) I J → XX (5 + 1) m_Go_go (fun r I' L' => r = none ∧ K I' L') 2 [vR 320 0, vR 256 i, vI (nI n), vI (nI (k + 1))] [] J L := by
    intro l
    induction l with
    | zero =>
      intro k J hk hsJ hGJ hSJ
      have e : k = n := by omega
      subst e
      exact r_Go_go_2 ⟨fun _ => ⟨rfl, h J hsJ hGJ hSJ⟩, fun q => absurd (nI_lt (show k < k + 1 by omega) (by omega)) q⟩
    | succ l ih =>
      intro k J hk hsJ hGJ hSJ
      refine r_Go_go_2 ⟨fun q => absurd q (nI_nlt (show k + 1 ≤ n by omega) (by omega)), fun _ => ?_⟩
      refine c_Go_turn (by omega) hR (hA.same hSJ (fun r h1 h2 => tuS_road h1 h2)) hGJ hsJ hh (itN_SR hR hh hSR k) (fun x J1 hx hs1 hG1 _ hS1 => ⟨fun q => ?_, fun q => ?_⟩)
      · rw [nI_1]
        exact ih (k + 1) J1 (by omega) hs1 hG1 (hSJ.tr hS1)
      · have hst : stays (itN R s k) (frO R (itN R s k) (-1)) 6 := by
          rcases hx with ⟨_, z⟩ | ⟨z, _⟩
          · exact z
          · rw [z] at q; exact absurd (by decide) q
        have hSu : Same (stS i) J1 (ui J1 256 i 4 (J1 256 i 4 + (nI n - nI (k + 1)))) := Same.rf.ui ⟨Or.inl rfl, rfl⟩
        refine ⟨rfl, h _ ?_ (GoA_st hG1 hSu) ((hSJ.tr hS1).tr (hSu.mono (fun _ _ z => Or.inr z)))⟩
        have e1 : itN R s n = itN R (itN R s k) (n - k) := by rw [← itN_add]; congr 1; omega
        have a1 := stay_it hR hst (n - k)
        have a2 := stay_it hR hst 1
        rw [← e1] at a1
        refine ⟨fun c hc => ?_, fun c hc => ?_, fun c hc => ?_, ?_, ?_⟩
        · rw [ui_r (by decide), hs1.1 c hc]; exact ((a2.1 c hc).1).trans (a1.1 c hc).1.symm
        · rw [ui_r (by decide), hs1.2.1 c hc]; exact ((a2.1 c hc).2.1).trans (a1.1 c hc).2.1.symm
        · rw [ui_r (by decide), hs1.2.2.1 c hc]; exact ((a2.1 c hc).2.2).trans (a1.1 c hc).2.2.symm
        · rw [ui_k (by decide), hs1.2.2.2.1]; exact a2.2.1.trans a1.2.1.symm
        · rw [ui_s, hs1.2.2.2.2, nI_sub (by omega), a1.2.2]
          have a3 : (trn R (itN R s k) (-1)).2.2.2.2 = (itN R s k).2.2.2.2 + nI 1 := a2.2.2
          rw [a3, Int32.add_assoc, nI_add]
          show _ + nI (1 + (n - (k + 1))) = _
          rw [show 1 + (n - (k + 1)) = n - k by omega]
  exact key n 0 I (by omega) hs hG Same.rf
theorem c_Go_timeOf {w m : Nat} {K : Int32 → MI → ML → Prop} (hd : 5 ≤ d) (hR : WF R) (hA : RoadA I 0 R) (hG : GoA I R) (hw : w < rW R) (hm : m ≤ 9) (h : ∀ I', GoA I' R → Same rmS I I' → K (tmO R (nI m) w) I' L) : CI d m_Go_timeOf [vR 320 0, vI (nI w), vI (nI m)] I L K := by
  refine toCI (n := 4) hd (r_Go_timeOf_0 (c_Go_reckon (by omega) hR hA hG hm (fun I1 hG1 ht _ hS => ?_)))
  refine c_Go_timeReckoned (by omega) (by have := hR.2.1; omega) ⟨_, rfl, ?_⟩
  rw [(ht w hw).1]
  exact h I1 hG1 hS
/-- the waits that are causes -/
def cbN (f : Nat → Int32) : Nat → Int32
  | 0 => 0
  | n + 1 => if f n = -1 then cbN f n else cbN f n ||| ((1 : Int32) <<< (f n &&& 31))
theorem c_Go_causeBits {K : Int32 → MI → ML → Prop} (hd : 1 ≤ d) (hR : WF R) (hA : RoadA I 0 R) (h : K (cbN (I 327 0) (rC R)) I L) : CI d m_Go_causeBits [vR 320 0] I L K := by
  refine toCI (n := 0) hd (r_Go_causeBits_0 ?_)
  have hC := hR.1
  have key : ∀ (n c : Nat), c + n = rC R → XX (0 + 1) m_Go_causeBits (fun r I' L' => ∃ x, r = some (vI x) ∧ K x I' L') 4 [vR 320 0, vI (cbN (I 327 0) c), vI (nI c)] [] I L := by
    intro n
    induction n with
    | zero =>
      intro c hc
      refine r_Go_causeBits_4 ?_
      rw [hA.1]
      refine ⟨fun _ => ⟨_, rfl, by rw [show c = rC R by omega]; exact h⟩, fun q => absurd (nI_le (show rC R ≤ c by omega) (by omega)) q⟩
    | succ n ih =>
      intro c hc
      refine r_Go_causeBits_4 ?_
      rw [hA.1, nI_1, cl_n (by omega)]
      have := ih (c + 1) (by omega)
      simp only [cbN] at this
      refine ⟨fun q => absurd q (nI_ge (show c < rC R by omega) (by omega)), fun _ => ⟨fun q => absurd q (nle_c (m := 6) (by omega) (by omega)), fun _ => ⟨vin (by omega) (by omega), fun q => ?_, fun q => ⟨vin (by omega) (by omega), ?_⟩⟩⟩⟩
      · rw [if_pos q] at this; exact this
      · rw [if_neg q] at this; exact this
  exact key (rC R) 0 (by omega)
def fgS : Nat → Nat → Prop := fun r a => (r = 320 ∨ r = 325 ∨ r = 326 ∨ r = 328) ∧ a = 0
def preL (R : RD) (c w : Nat) : List Nat := (List.range c).flatMap (wts R) ++ (List.range w).filter (fun w => decide (rt R w = c))
theorem preL_pre {c w : Nat} (hc : c < rC R) (hw : w ≤ rW R) : (preL R c w).length ≤ (ordL R).length := by
  have h1 : ((List.range w).filter (fun w => decide (rt R w = c))) <+: wts R c := by
    have : List.range w = (List.range (rW R)).take w := by rw [List.take_range]; congr 1; omega
    rw [this]
    exact (List.take_prefix _ _).filter _
  have h2 : (List.range c).flatMap (wts R) ++ wts R c = (List.range (c + 1)).flatMap (wts R) := by
    rw [List.range_succ, List.flatMap_append]; simp
  have h3 : (List.range (c + 1)) = (List.range (rC R)).take (c + 1) := by rw [List.take_range]; congr 1; omega
  have h4 : ((List.range (c + 1)).flatMap (wts R)).length ≤ (ordL R).length := by
    have e : List.range (rC R) = (List.range (rC R)).take (c + 1) ++ (List.range (rC R)).drop (c + 1) := (List.take_append_drop _ _).symm
    unfold ordL
    rw [e, List.flatMap_append, ← h3, List.length_append]
    omega
  have h5 := h1.length_le
  rw [← h2, List.length_append] at h4
  unfold preL
  rw [List.length_append]
  omega
theorem preL_no {c w : Nat} (h : rt R w ≠ c) : preL R c (w + 1) = preL R c w := by
  unfold preL
  rw [List.range_succ, List.filter_append]
  simp [h]
theorem preL_yes {c w : Nat} (h : rt R w = c) : preL R c (w + 1) = preL R c w ++ [w] := by
  unfold preL
  rw [List.range_succ, List.filter_append]
  simp [h]
theorem preL_nx {c : Nat} : preL R c (rW R) = preL R (c + 1) 0 := by
  unfold preL
  rw [List.range_succ, List.flatMap_append]
  simp [wts]
theorem c_Go_forget {K : MI → ML → Prop} (hd : 2 ≤ d) (hR : WF R) (hA : RoadA I 0 R) (h : ∀ I', GoA I' R → Same fgS I I' → K I' L) : CV d m_Go_forget [vR 320 0] I L K := by
  refine toCV (n := 1) hd (r_Go_forget_0 ?_)
  have hC := hR.1
  have hW := hR.2.1
  have hlen := ordL_len hR
  refine c_fillK (by omega) (fun I1 hk1 hs1 => c_fillF (by omega) (fun I2 hf2 hs2 => ?_))
  have s1 : Same fgS I I1 := (Same.rf.ui ⟨Or.inl rfl, rfl⟩).tr (hs1.mono (fun _ _ q => ⟨Or.inr (Or.inr (Or.inr q.1)), q.2⟩))
  have s2 : Same fgS I I2 := s1.tr (hs2.mono (fun _ _ q => ⟨Or.inr (Or.inr (Or.inl q.1)), q.2⟩))
  have k8 : I2 320 0 8 = -1 := by
    rw [hs2 320 0 (fun q => absurd q.1 (by decide)), hs1 320 0 (fun q => absurd q.1 (by decide)), ui_s]
  have kk : ∀ c, c < 640 → I2 328 0 c = 0 := fun c hc => by rw [hs2 328 0 (fun q => absurd q.1 (by decide))]; exact hk1 c hc
  have road : ∀ J, Same fgS I J → RoadA J 0 R := fun J hs => hA.same hs (fun r h1 h2 q => by rcases q.1 with z | z | z | z <;> omega)
  have key : ∀ (n c w : Nat) (J : MI), (rC R - c) * (rW R + 1) + (rW R - w) = n → c ≤ rC R → w ≤ rW R → (c = rC R → w = 0) → (∀ k, k < (preL R c w).length → J 325 0 k = nI ((preL R c w).getD k 0)) → J 320 0 8 = -1 → (∀ c, c < 6 → J 326 0 c = 0) → (∀ c, c < 640 → J 328 0 c = 0) → Same fgS I J →
      (w = 0 → XX (1 + 1) m_Go_forget (fun r I' L' => r = none ∧ K I' L') 25 [vR 320 0, vI (nI (preL R c w).length), vI (nI c), vD] [] J L) ∧ (c < rC R → XX (1 + 1) m_Go_forget (fun r I' L' => r = none ∧ K I' L') 38 [vR 320 0, vI (nI (preL R c w).length), vI (nI c), vI (nI w)] [] J L) := by
    intro n
    induction n using Nat.strongRecOn with
    | _ n ih =>
      intro c w J hn hc hw hcw hf h8 h6 hk hs
      have hAJ := road J hs
      have second : c < rC R → XX (1 + 1) m_Go_forget (fun r I' L' => r = none ∧ K I' L') 38 [vR 320 0, vI (nI (preL R c w).length), vI (nI c), vI (nI w)] [] J L := by
        intro hcR
        by_cases hwR : w = rW R
        · subst hwR
          have e1 : (rC R - (c + 1)) * (rW R + 1) + (rW R - 0) < n := by
            have : rC R - c = (rC R - (c + 1)) + 1 := by omega
            rw [← hn, this, Nat.add_mul]; omega
          have := (ih _ e1 (c + 1) 0 J rfl (by omega) (by omega) (fun _ => rfl) (by rw [← preL_nx]; exact hf) h8 h6 hk hs).1 rfl
          refine r_Go_forget_38 ?_
          rw [hAJ.2.1, nI_1]
          rw [← preL_nx] at this
          exact ⟨fun _ => this, fun q => absurd (nI_le (Nat.le_refl _) (by omega)) q⟩
        · have hwlt : w < rW R := by omega
          obtain ⟨f1, f2, f3, f4⟩ := hAJ.2.2.2.2.2.1 w hwlt
          have hto := (hR.2.2.1 w hwlt).2.1
          have e1 : (rC R - c) * (rW R + 1) + (rW R - (w + 1)) < n := by omega
          refine r_Go_forget_38 ?_
          rw [hAJ.2.1, nI_1, nI_1]
          refine ⟨fun q => absurd q (nI_ge hwlt (by omega)), fun _ => c_Road_toOf (by omega) (by omega) ?_⟩
          rw [f2]
          refine ⟨fun q => ?_, fun q => ?_⟩
          · have hne : rt R w ≠ c := fun z => q (by rw [z])
            have := (ih _ e1 c (w + 1) J rfl hc (by omega) (fun z => by omega) (by rw [preL_no hne]; exact hf) h8 h6 hk hs).2 hcR
            rw [preL_no hne] at this
            exact this
          · have hyes : rt R w = c := (nI_eq (by omega) (by omega)).mp (Classical.not_not.mp q)
            have hl := preL_pre (R := R) hcR (show w + 1 ≤ rW R by omega)
            rw [preL_yes hyes, List.length_append, hlen] at hl
            have hl : (preL R c w).length + 1 ≤ rW R := hl
            refine ⟨fun q2 => absurd q2 (nle_c (m := 10) (by omega) (by omega)), fun _ => ⟨vin (by omega) (by omega), ?_⟩⟩
            rw [cl_n (by omega), nI_1]
            have := (ih _ e1 c (w + 1) (ui J 325 0 (preL R c w).length (nI w)) rfl hc (by omega) (fun z => by omega) (fun k hkk => ?_) (by rw [ui_r (by decide)]; exact h8) (fun a ha => by rw [ui_r (by decide)]; exact h6 a ha) (fun a ha => by rw [ui_r (by decide)]; exact hk a ha) (hs.ui ⟨Or.inr (Or.inl rfl), rfl⟩)).2 hcR
            · rw [preL_yes hyes, List.length_append] at this
              exact this
            · rw [preL_yes hyes] at hkk ⊢
              rw [List.length_append] at hkk
              have hkk : k < (preL R c w).length + 1 := hkk
              by_cases e : k = (preL R c w).length
              · subst e
                rw [ui_s]
                simp
              · rw [ui_k e, hf k (by omega)]
                congr 1
                simp only [List.getD_eq_getElem?_getD]
                rw [List.getElem?_append_left (by omega)]
      refine ⟨fun hw0 => ?_, second⟩
      subst hw0
      refine r_Go_forget_25 ?_
      rw [hAJ.1]
      refine ⟨fun q => ⟨rfl, h J ⟨fun k hkk => ?_, fun a _ ha => h6 a ha, Or.inl h8, fun w' hw' k hk' => Or.inl (hk _ (by omega))⟩ hs⟩, fun q => second ?_⟩
      · have e : c = rC R := by
          rcases Nat.lt_or_ge c (rC R) with z | z
          · exact absurd q (nI_ge z (by omega))
          · omega
        have eL : preL R c 0 = ordL R := by rw [e]; unfold preL ordL; simp
        rw [← eL]
        exact hf k (by rw [eL, hlen]; exact hkk)
      · rcases Nat.lt_or_ge c (rC R) with z | z
        · exact z
        · exact absurd (nI_le z (by omega)) q
  exact (key _ 0 0 I2 rfl (by omega) (by omega) (fun _ => rfl) (fun k hk => by simp [preL] at hk) k8 hf2 kk s2).1 rfl
end Go2

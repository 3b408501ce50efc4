/-! look of the reference -/
section LookM2
variable {d : Nat} {I : MI} {L : ML} {R : RD} {s : SA} {P : List SA}
theorem m_look {T : Nat → TA} {a c : Int32} {K : Int32 → MI → ML → Prop} (hd : 8 ≤ d) (hO : CoO R s P) (hc : CoM I R s P) (hT : tsM I L T) (h2 : ¬ (is3 a ∧ isC R c) → K (-2) (ui I 704 0 0 0) L) (h6 : is3 a → isC R c → T a.toInt.toNat = none → K (-6) (ui I 704 0 0 0) L) (h4 : ∀ so n f, is3 a → isC R c → T a.toInt.toNat = some (so, n, f) → ¬ (1 ≤ n ∧ n ≤ 8) → K (-4) (ui I 704 0 0 0) L) (h3 : ∀ so n f, is3 a → isC R c → T a.toInt.toNat = some (so, n, f) → 1 ≤ n → n ≤ 8 → ngP f n → K (-3) (ui I 704 0 0 0) L) (h1 : ∀ so n f, is3 a → isC R c → T a.toInt.toNat = some (so, n, f) → 1 ≤ n → n ≤ 8 → ¬ ngP f n → ∀ I', CoM I' R s P → mFr I I' → K (lkN R s (mdN R s c.toInt.toNat n f)) I' L) : CI d m_M_look [vR 704 0, vI a, vI c] I L K := by
  have hR := hO.1
  have hC := hR.1
  have hc0 : CoM (ui I 704 0 0 0) R s P := CoM_cg hR hc t0_6
  have hT0 : tsM (ui I 704 0 0 0) L T := fun i hi => ⟨(hT i hi).1, TrM_F (hT i hi).2 t0_F⟩
  have m2 : ¬ (-2 : Int32) = 0 := by decide
  have m3 : ¬ (-3 : Int32) = 0 := by decide
  have m4 : ¬ (-4 : Int32) = 0 := by decide
  have m6 : ¬ (-6 : Int32) = 0 := by decide
  refine toCI (n := 7) hd (r_M_look_0 (c_M_noSeen (by omega) hO hc0 hT0 (fun g => ⟨fun q => absurd q m2, fun _ => ⟨_, rfl, h2 g⟩⟩) (fun g1 g e => ⟨fun q => absurd q m6, fun _ => ⟨_, rfl, h6 g1 g e⟩⟩) (fun so n f g1 g e z => ⟨fun q => absurd q m4, fun _ => ⟨_, rfl, h4 so n f g1 g e z⟩⟩) (fun so n f g1 g e z1 z2 z3 => ⟨fun q => absurd q m3, fun _ => ⟨_, rfl, h3 so n f g1 g e z1 z2 z3⟩⟩) (fun so n f g1 g e z1 z2 z3 => ⟨fun _ => ?_, fun q => absurd rfl q⟩)))
  have fin := h1 so n f g1 g e z1 z2 z3
  obtain ⟨x1, x2⟩ := g1
  have hTr := (hT0 a.toInt.toNat (by omega)).2
  rw [e] at hTr
  obtain ⟨y1, y2⟩ := g
  have e1 := ge_nI y1
  have e2 := ge_nI x1
  have b1 : c.toInt.toNat < rC R := by omega
  have b2 : a.toInt.toNat < 4 := by omega
  clear h1 h2 h3 h4 h6 e hT hT0
  generalize c.toInt.toNat = c' at *
  generalize a.toInt.toNat = a' at *
  subst e1 e2
  refine c_M_mudsOf (by omega) hO hc0 hTr b2 (by omega) b1 (fun I' hc' hS' ho' => ?_)
  have hF' : mF0 I I' := t0_F.tr (gr_F0 hS' ho')
  have ht' : I' 704 0 0 = 0 := by rw [ho' 0 (by decide) (by decide), ui_s]
  have hlt := mdN_lt (R := R) (s := s) (c := c') (q := n) (f := f)
  generalize mdN R s c' n f = k at *
  have hM10 : ∀ c, (fun c => moN k (flN R s) c 10) c ≤ 10 := fun c => moN_le 10
  have ix : ∀ o c, ((6 : Int32) * nI o) + nI c = nI (6 * o + c) := fun o c => by
    have : (6 : Int32) * nI o = nI (6 * o) := pk_mul 6 o
    rw [this, nI_add]
  have last : ∀ (J : MI), CoM J R s P → F39 J (flN R s) (rC R) 10 → mF0 I J → J 704 0 0 = 0 → XX (7 + 1) m_M_look (fun r I' L' => ∃ x, r = some (vI x) ∧ K x I' L') 105 [vR 704 0, vD, vD, vD, vI (nI k), vI (-1), vI 268435456, vI 0, vD] [] J L := by
    intro J hcJ hF hFJ htJ
    have fin := fin J hcJ ⟨hFJ, htJ⟩
    unfold lkN at fin
    have key : k ≠ 0 → ∀ (l c : Nat), c + 1 + l = rC R → XX (7 + 1) m_M_look (fun r I' L' => ∃ x, r = some (vI x) ∧ K x I' L') 105 [vR 704 0, vD, vD, vD, vI (nI k), vI (nI (btN (fun c => moN k (flN R s) c 10) c).1), vI (nI (btN (fun c => moN k (flN R s) c 10) c).2), vI (nI (c + 1)), vD] [] J L := by
      intro hk0 l
      rw [if_neg hk0] at fin
      induction l with
      | zero =>
        intro c hcl
        refine r_M_look_105 ?_
        rw [hcJ.1.1]
        refine ⟨fun _ => ⟨_, rfl, ?_⟩, fun q => absurd (nI_le (show rC R ≤ c + 1 by omega) (by omega)) q⟩
        rw [show rC R - 1 = c by omega] at fin
        exact fin
      | succ l ih =>
        intro c hcl
        have b1 := bt_le hM10 c
        have n1 := ih (c + 1) (by omega)
        simp only [btN] at n1
        refine r_M_look_105 ?_
        rw [hcJ.1.1]
        refine ⟨fun q => absurd q (nI_ge (show c + 1 < rC R by omega) (by omega)), fun _ => ⟨fun q => absurd ((nI_eq (b := 0) (by omega) (by omega)).mp q) hk0, fun _ => c_M_mostAlike (by omega) hlt (by omega) hC hF ?_⟩⟩
        have m1 := moN_le (k := k) (F := flN R s) (c := c + 1) 10
        rw [nI_1 (a := c + 1)]
        refine ⟨fun q => ?_, fun q => ?_⟩
        · have := (nI_ltI (by omega) (by omega)).mp q
          rw [if_pos (by omega)] at n1
          exact n1
        · have : ¬ moN k (flN R s) (c + 1) 10 < (btN (fun c => moN k (flN R s) c 10) c).2 := fun z => q (nI_lt z (by omega))
          rw [if_neg (by omega)] at n1
          exact n1
    refine r_M_look_105 ?_
    rw [hcJ.1.1]
    refine ⟨fun q => absurd q (nI_ge (a := 0) (show 0 < rC R by omega) (by omega)), fun _ => ⟨fun q => ⟨_, rfl, ?_⟩, fun q => c_M_mostAlike (c := 0) (by omega) hlt (by omega) hC hF ?_⟩⟩
    · have hk0 : k = 0 := (nI_eq (b := 0) (by omega) (by omega)).mp q
      rw [if_pos hk0] at fin
      exact fin
    · have m1 := moN_le (k := k) (F := flN R s) (c := 0) 10
      have lt : nI (moN k (flN R s) 0 10) < (268435456 : Int32) := nI_lt (b := 268435456) (by omega) (by omega)
      exact ⟨fun _ => key (fun z => q (by rw [z]; rfl)) (rC R - 1) 0 (by omega), fun q => absurd lt q⟩
  have out : ∀ (l m : Nat) (J : MI), m + l = 10 → CoM J R s P → F39 J (flN R s) (rC R) m → mF0 I J → J 704 0 0 = 0 → XX (7 + 1) m_M_look (fun r I' L' => ∃ x, r = some (vI x) ∧ K x I' L') 29 [vR 704 0, vD, vD, vD, vI (nI k), vI (nI m), vD, vD, vD] [] J L := by
    intro l
    induction l with
    | zero =>
      intro m J hm hcJ hF hFJ htJ
      have em : m = 10 := by omega
      subst em
      exact r_M_look_29 ⟨fun _ => last J hcJ hF hFJ htJ, fun q => absurd (by decide) q⟩
    | succ l ih =>
      intro m J hm hcJ hF hFJ htJ
      have hok := mud_Ok (m := m) hO.2.1 (by omega)
      refine r_M_look_29 ⟨fun q => absurd q (nle_c (m := 10) (by omega) (by omega)), fun _ => c_M_begins (s := s) (m := m) (by omega) hR hcJ.1 (by omega) hcJ.2.1 (fun I1 hG1 _ ho1 hS1 => ?_)⟩
      have n61 : I1 706 0 = J 706 0 := gr_no hS1 (by decide)
      refine c_M_goes (s := mudS s (nI m)) (r := 0) (by omega) hR (by rw [n61]; exact hcJ.1) (by omega) hG1 (hok.1.mono (by omega)) (fun I2 hG2 _ ho2 hS2 => ?_)
      have n62 : I2 706 0 = J 706 0 := (gs_no hS2 (by decide)).trans n61
      have n9 : I2 739 0 = J 739 0 := (gs_no hS2 (by decide)).trans (gr_no hS1 (by decide))
      have hF2 : mF0 I I2 := (hFJ.tr (gr_F0 hS1 ho1)).tr (gs_F0 hS2 ho2)
      have ht2 : I2 704 0 0 = 0 := by rw [ho2 0 (by decide) (by decide), ho1 0 (by decide) (by decide)]; exact htJ
      have inn : ∀ (b c : Nat) (J2 : MI), c + b = rC R → J2 706 0 = J 706 0 → J2 724 0 = I2 724 0 → F39 J2 (flN R s) (rC R) m → (∀ e, e < c → J2 739 0 (6 * m + e) = flN R s m e) → mF0 I J2 → J2 704 0 0 = 0 → XX (7 + 1) m_M_look (fun r I' L' => ∃ x, r = some (vI x) ∧ K x I' L') 51 [vR 704 0, vD, vD, vD, vI (nI k), vI (nI m), vI (nI c), vD, vD] [] J2 L := by
        intro b
        induction b with
        | zero =>
          intro c J2 hcb h6 h24 hF3 hr hFr ht3
          refine r_M_look_51 ?_
          rw [h6, hcJ.1.1, nI_1]
          refine ⟨fun _ => ih (m + 1) J2 (by omega) (CoM_cg hR hcJ h6) (fun o e ho he => ?_) hFr ht3, fun q => absurd (nI_le (show rC R ≤ c by omega) (by omega)) q⟩
          by_cases y : o = m
          · subst y; exact hr e (by omega)
          · exact hF3 o e (by omega) he
        | succ b ihb =>
          intro c J2 hcb h6 h24 hF3 hr hFr ht3
          have hv : J2 724 0 (6 * (1 + 1) + c) = flN R s m c := by rw [h24]; exact (hG2.1 c (by omega)).1
          refine r_M_look_51 ?_
          rw [h6, hcJ.1.1, nI_1 (a := c), ix m c, cl_n (by omega)]
          refine ⟨fun q => absurd q (nI_ge (show c < rC R by omega) (by omega)), fun _ => c_M_lateAt (r := 1) (by omega) (by omega) (by omega) ⟨vin (by omega) (by omega), ?_⟩⟩
          rw [hv]
          refine ihb (c + 1) _ (by omega) (by rw [ui_off (by decide)]; exact h6) (by rw [ui_off (by decide)]; exact h24) (fun o e ho he => ?_) (fun e he => ?_) (hFr.tr ⟨Same.rf.ui ⟨Or.inr (Or.inr (by omega)), rfl⟩, fun _ _ => by rw [ui_r (by decide)], fun _ _ _ => by rw [ui_r (by decide)]⟩) (by rw [ui_r (by decide)]; exact ht3)
          · rw [ui_k (by omega)]; exact hF3 o e ho he
          · by_cases y : e = c
            · subst y; rw [ui_s]
            · rw [ui_k (by omega)]; exact hr e (by omega)
      exact inn (rC R) 0 I2 (by omega) n62 rfl (fun o e ho he => by rw [n9]; exact hF o e ho he) (fun e he => by omega) hF2 ht2
  exact out 10 0 I' (by omega) hc' (fun o e ho _ => by omega) hF' ht'
end LookM2

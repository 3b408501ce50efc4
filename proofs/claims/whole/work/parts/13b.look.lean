/-! look of the program; muds, look of the reference -/
section LookC
variable {d : Nat} {I : MI} {L : ML} {R : RD} {s : SA} {P : List SA}
theorem c_W_bestToLookAt {k : Nat} {K : Int32 → MI → ML → Prop} (hd : 6 ≤ d) (hO : CoO R s P) (hc : CoC I R s P) (hk : k < 1024) (hC1 : 1 ≤ rC R) (h : ∀ I', CoC I' R s P → Same lkS I I' → K (nI (btN (fun c => moN k (flN R s) c 10) (rC R - 1)).1) I' L) : CI d m_W_bestToLookAt [vR 0 0, vI (nI k)] I L K := by
  have hR := hO.1
  have hC := hR.1
  refine toCI (n := 5) hd (r_W_bestToLookAt_0 ?_)
  have ix : ∀ o c, (nI o * (6 : Int32)) + nI c = nI (6 * o + c) := fun o c => by
    have : nI o * (6 : Int32) = nI (o * 6) := pk_mul o 6
    rw [this, nI_add, Nat.mul_comm]
  have hM10 : ∀ c, (fun c => moN k (flN R s) c 10) c ≤ 10 := fun c => moN_le 10
  have last : ∀ (J : MI), CoC J R s P → F16 J (flN R s) 10 → Same lkS I J → XX (5 + 1) m_W_bestToLookAt (fun r I' L' => ∃ x, r = some (vI x) ∧ K x I' L') 87 [vR 0 0, vI (nI k), vI 0, vI 11, vI 0, vD] [] J L := by
    intro J hcJ hF hS
    have key : ∀ (l c : Nat), c + 1 + l = rC R → XX (5 + 1) m_W_bestToLookAt (fun r I' L' => ∃ x, r = some (vI x) ∧ K x I' L') 87 [vR 0 0, vI (nI k), vI (nI (btN (fun c => moN k (flN R s) c 10) c).1), vI (nI (btN (fun c => moN k (flN R s) c 10) c).2), vI (nI (c + 1)), vD] [] J L := by
      intro l
      induction l with
      | zero =>
        intro c hcl
        refine r_W_bestToLookAt_87 ?_
        rw [hcJ.1.1]
        refine ⟨fun _ => ⟨_, rfl, ?_⟩, fun q => absurd (nI_le (show rC R ≤ c + 1 by omega) (by omega)) q⟩
        have := h J hcJ hS
        rw [show rC R - 1 = c by omega] at this
        exact this
      | succ l ih =>
        intro c hcl
        have b1 := bt_le hM10 c
        have n1 := ih (c + 1) (by omega)
        simp only [btN] at n1
        refine r_W_bestToLookAt_87 ?_
        rw [hcJ.1.1]
        refine ⟨fun q => absurd q (nI_ge (show c + 1 < rC R by omega) (by omega)), fun _ => ⟨fun q => absurd q (nle_c (m := 6) (by omega) (by omega)), fun _ => c_W_mostAlike (by omega) hk (by omega) hF ?_⟩⟩
        have m1 := moN_le (k := k) (F := flN R s) (c := c + 1) 10
        rw [nI_1 (a := c + 1)]
        refine ⟨fun q => ?_, fun q => ?_⟩
        · have := (nI_leI (by omega) (by omega)).mp q
          rw [if_neg (by omega)] at n1
          exact n1
        · have : ¬ (btN (fun c => moN k (flN R s) c 10) c).2 ≤ moN k (flN R s) (c + 1) 10 := fun z => q (nI_le z (by omega))
          rw [if_pos (by omega)] at n1
          exact n1
    refine r_W_bestToLookAt_87 ?_
    rw [hcJ.1.1]
    refine ⟨fun q => absurd q (nI_ge (a := 0) (show 0 < rC R by omega) (by omega)), fun _ => ⟨fun q => absurd q (by decide), fun _ => c_W_mostAlike (c := 0) (by omega) hk (by omega) hF ?_⟩⟩
    have m1 := moN_le (k := k) (F := flN R s) (c := 0) 10
    exact ⟨fun q => absurd q (nle_c (m := 11) (by omega) (by omega)), fun _ => key (rC R - 1) 0 (by omega)⟩
  have out : ∀ (l m : Nat) (J : MI), m + l = 10 → CoC J R s P → F16 J (flN R s) m → Same lkS I J → XX (5 + 1) m_W_bestToLookAt (fun r I' L' => ∃ x, r = some (vI x) ∧ K x I' L') 2 [vR 0 0, vI (nI k), vI (nI m), vD, vD, vD] [] J L := by
    intro l
    induction l with
    | zero =>
      intro m J hm hcJ hF hS
      have em : m = 10 := by omega
      subst em
      exact r_W_bestToLookAt_2 ⟨fun _ => last J hcJ hF hS, fun q => absurd (by decide) q⟩
    | succ l ih =>
      intro m J hm hcJ hF hS
      refine r_W_bestToLookAt_2 ⟨fun q => absurd q (nle_c (m := 10) (by omega) (by omega)), fun _ => c_St_copy (by omega) (by omega) hcJ.2.1 (fun I1 hs1 hS1 => ?_)⟩
      have hG1 := GoA_st hcJ.2.2.1 hS1
      have hc1 := CoC_tu hcJ (i := 2) (by omega) (by omega) hG1 (st_tu hS1)
      have hu : Same (stS 2) I1 (ui I1 256 2 3 (nI m)) := Same.rf.ui ⟨by simp, rfl⟩
      have hs2 : StA (ui I1 256 2 3 (nI m)) 2 (mudS s (nI m)) := StA_mud hs1
      have hc2 := CoC_tu hc1 (i := 2) (by omega) (by omega) (GoA_st hG1 hu) (st_tu hu)
      have hok := mud_Ok (m := m) hO.2.1 (by omega)
      refine c_Go_turn (hb := 9) (by omega) hR hc2.1 hc2.2.2.1 hs2 (by omega) hok.1 (fun x J1 _ hs3 hG3 _ hS3 => ?_)
      have hc3 := CoC_tu hc2 (i := 2) (by omega) (by omega) hG3 hS3
      have hSt : Same (tuS 2) J J1 := ((st_tu hS1).tr (st_tu hu)).tr hS3
      have e16 : J1 16 0 = J 16 0 := hSt 16 0 (fun q => by
        rcases q with z | z
        · rcases z.1 with y | y | y | y | y | y | y | y | y <;> omega
        · rcases z.1 with y | y | y | y <;> omega)
      have inn : ∀ (b c : Nat) (J2 : MI), c + b = 6 → CoC J2 R s P → StA J2 2 (trn R (mudS s (nI m)) (-1)) → F16 J2 (flN R s) m → (∀ e, e < c → J2 16 0 (6 * m + e) = flN R s m e) → Same lkS I J2 → XX (5 + 1) m_W_bestToLookAt (fun r I' L' => ∃ x, r = some (vI x) ∧ K x I' L') 42 [vR 0 0, vI (nI k), vI (nI m), vI (nI c), vD, vD] [] J2 L := by
        intro b
        induction b with
        | zero =>
          intro c J2 hcb hcJ2 _ hF2 hr hS2
          have ec : c = 6 := by omega
          subst ec
          refine r_W_bestToLookAt_42 ⟨fun _ => ?_, fun q => absurd (by decide) q⟩
          rw [nI_1]
          refine ih (m + 1) J2 (by omega) hcJ2 (fun o c ho hc6 => ?_) hS2
          by_cases y : o = m
          · subst y; exact hr c hc6
          · exact hF2 o c (by omega) hc6
        | succ b ihb =>
          intro c J2 hcb hcJ2 hst hF2 hr hS2
          refine r_W_bestToLookAt_42 ⟨fun q => absurd q (nle_c (m := 6) (by omega) (by omega)), fun _ => c_St_lastOf (by omega) (by omega) ?_⟩
          rw [ix m c, cl_n (by omega), hst.1 c (by omega), nI_1]
          refine ⟨vin (by omega) (by omega), ihb (c + 1) _ (by omega) (CoC_16 hcJ2) ?_ (fun o e ho he => ?_) (fun e he => ?_) (hS2.ui (Or.inr ⟨rfl, rfl⟩))⟩
          · exact hst.same (S := fun r a => r = 16 ∧ a = 0) (Same.rf.ui ⟨rfl, rfl⟩) (fun q => by have := q.1; omega) (fun q => by have := q.1; omega) (fun q => by have := q.1; omega) (fun q => by have := q.1; omega)
          · rw [ui_k (by omega)]; exact hF2 o e ho he
          · by_cases y : e = c
            · subst y; rw [ui_s]; rfl
            · rw [ui_k (by omega)]; exact hr e (by omega)
      exact inn 6 0 J1 (by omega) hc3 hs3 (fun o c ho hc6 => by rw [e16]; exact hF o c ho hc6) (fun e he => by omega) (hS.tr (tu_lk hSt))
  exact out 10 0 I (by omega) hc (fun o c ho _ => by omega) Same.rf
theorem w_look {T : Nat → TA} {a c : Int32} {K : Int32 → MI → ML → Prop} (hd : 8 ≤ d) (hO : CoO R s P) (hc : CoC I R s P) (hT : tsC I L T) (h2 : ¬ (is3 a ∧ isC R c) → K (-2) I L) (h6 : is3 a → isC R c → T a.toInt.toNat = none → K (-6) I L) (h4 : ∀ so n f, is3 a → isC R c → T a.toInt.toNat = some (so, n, f) → ¬ (1 ≤ n ∧ n ≤ 8) → K (-4) I L) (h3 : ∀ so n f, is3 a → isC R c → T a.toInt.toNat = some (so, n, f) → 1 ≤ n → n ≤ 8 → ngP f n → K (-3) I L) (h1 : ∀ so n f, is3 a → isC R c → T a.toInt.toNat = some (so, n, f) → 1 ≤ n → n ≤ 8 → ¬ ngP f n → ∀ I', CoC I' R s P → Same cdL I I' → K (lkN R s (mdN R s c.toInt.toNat n f)) I' L) : CI d m_W_look [vR 0 0, vI a, vI c] I L K := by
  have hC := hO.1.1
  refine toCI (n := 7) hd (r_W_look_0 (c_W_trayAt (by omega) (fun g => toCI (n := 6) (by omega) (r_W_refusalOfSeenN_0 ⟨_, rfl, _, rfl, h2 (fun z => g z.1)⟩)) (fun g1 g2 => ?_)))
  obtain ⟨ht, hTr⟩ := hT a.toInt.toNat (by omega)
  have m2 : ¬ (-2 : Int32) = 0 := by decide
  have m3 : ¬ (-3 : Int32) = 0 := by decide
  have m4 : ¬ (-4 : Int32) = 0 := by decide
  have m6 : ¬ (-6 : Int32) = 0 := by decide
  refine c_W_refusalOfSeen (by omega) hO.1 hc ht hTr (fun g => ⟨fun q => absurd q m2, fun _ => ⟨_, rfl, h2 (fun z => g z.2)⟩⟩) (fun g e => ⟨fun q => absurd q m6, fun _ => ⟨_, rfl, h6 ⟨g1, g2⟩ g e⟩⟩) (fun so n f g e z => ⟨fun q => absurd q m4, fun _ => ⟨_, rfl, h4 so n f ⟨g1, g2⟩ g e z⟩⟩) (fun so n f g e z1 z2 z3 => ⟨fun q => absurd q m3, fun _ => ⟨_, rfl, h3 so n f ⟨g1, g2⟩ g e z1 z2 z3⟩⟩) (fun so n f g e z1 z2 z3 => ⟨fun _ => ?_, fun q => absurd rfl q⟩)
  have fin := h1 so n f ⟨g1, g2⟩ g e z1 z2 z3
  rw [e] at hTr
  obtain ⟨y1, y2⟩ := g
  have e1 := ge_nI y1
  have b1 : c.toInt.toNat < rC R := by omega
  clear h1 h2 h3 h4 h6
  generalize c.toInt.toNat = c' at *
  subst e1
  refine c_W_mudsSeen (by omega) hO hc hTr (by omega) b1 (fun I' hc' hS' => ?_)
  have hlt := mdN_lt (R := R) (s := s) (c := c') (q := n) (f := f)
  unfold lkN at fin
  refine ⟨fun q => ?_, fun q => ⟨_, rfl, ?_⟩⟩
  · have q0 : ¬ mdN R s c' n f = 0 := fun z => q (by rw [z]; rfl)
    rw [if_neg q0] at fin
    exact c_W_bestToLookAt (by omega) hO hc' hlt (by omega) (fun I2 hc2 hS2 => ⟨_, rfl, fin I2 hc2 ((cd_cdL (tu_cd (by omega) hS')).tr (lk_cd hS2))⟩)
  · have q0 : mdN R s c' n f = 0 := (nI_eq (b := 0) (by omega) (by omega)).mp (Classical.not_not.mp q)
    rw [if_pos q0] at fin
    exact fin I' hc' (cd_cdL (tu_cd (by omega) hS'))
end LookC

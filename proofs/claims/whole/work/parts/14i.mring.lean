/-! the reference's test of a ring -/
def rf6 (I I' : MI) : Prop := (∀ r a, ¬ (r = 704 ∧ a = 0) → I' r a = I r a) ∧ ∀ j, j ≠ 26 → j ≠ 27 → I' 704 0 j = I 704 0 j
theorem rf6.rf {I : MI} : rf6 I I := ⟨fun _ _ _ => rfl, fun _ _ _ => rfl⟩
theorem rf6.ui {I I' : MI} {j : Nat} {x : Int32} (h : rf6 I I') (hj : j = 26 ∨ j = 27) : rf6 I (ui I' 704 0 j x) := by
  refine ⟨fun r a hr => ?_, fun i h1 h2 => ?_⟩
  · rw [ui_off (fun z => hr z)]; exact h.1 r a hr
  · rw [ui_k (by omega)]; exact h.2 i h1 h2
theorem rf6_r {I I' : MI} (h : rf6 I I') {r : Nat} (hr : r ≠ 704) : I' r 0 = I r 0 := h.1 r 0 (fun z => hr z.1)
theorem inF_lt {R : RD} (hR : WF R) {k : Nat} : ∀ n, n ≤ rW R → inN (rf R) k n < 64
  | 0, _ => by show 0 < 64; omega
  | n + 1, h => by
    have ih := inF_lt hR (k := k) n (by omega)
    have h2 := (hR.2.2.1 n (by omega)).1
    have := hR.1
    simp only [inN]
    split
    · exact Nat.or_lt_two_pow (n := 6) ih (Nat.pow_lt_pow_right (by omega) (by omega))
    · exact ih
def laV2 (k : Nat) : Nat → Int32
  | 0 => -1
  | n + 1 => if k.testBit n = true then nI n else laV2 k n
theorem laV2_ok {k : Nat} : ∀ n, (∃ w, w < n ∧ k.testBit w = true) → laV2 k n = nI (lsN k n)
  | 0, ⟨w, h, _⟩ => absurd h (by omega)
  | n + 1, ⟨w, h, hw⟩ => by
    simp only [laV2, lsN]
    by_cases e : k.testBit n = true
    · rw [if_pos e, if_pos e]
    · rw [if_neg e, if_neg e]
      have : w ≠ n := fun z => e (z ▸ hw)
      exact laV2_ok n ⟨w, by omega, hw⟩
theorem onF_lt {R : RD} (hR : WF R) {k c : Nat} (hc : c < 6) : ∀ f w, w + f = rW R → onF R k c f w < 6
  | 0, _, _ => hc
  | f + 1, w, h => by
    simp only [onF]
    split
    · have := (hR.2.2.1 w (by omega)).2.1; have := hR.1; omega
    · exact onF_lt hR hc f (w + 1) (by omega)
section RingM
variable {d : Nat} {I : MI} {L : ML} {R : RD} {s : SA} {P : List SA}
theorem c_M_onBy {k c : Nat} {K : Int32 → MI → ML → Prop} (hd : 2 ≤ d) (hR : WF R) (hM : MRo (I 706 0) R) (hk : k < 1024) (hc : c < 6) (h : K (nI (onF R k c (rW R) 0)) I L) : CI d m_M_onBy [vR 704 0, vI (nI k), vI (nI c)] I L K := by
  have hW := hR.2.1
  have hC := hR.1
  refine toCI (n := 1) hd (r_M_onBy_0 ?_)
  have key : ∀ (f w : Nat), w + f = rW R → K (nI (onF R k c f w)) I L → XX (1 + 1) m_M_onBy (fun r I' L' => ∃ x, r = some (vI x) ∧ K x I' L') 2 [vR 704 0, vI (nI k), vI (nI c), vI (nI w)] [] I L := by
    intro f
    induction f with
    | zero =>
      intro w hw hK
      refine r_M_onBy_2 ?_
      rw [hM.2.1]
      exact ⟨fun _ => ⟨_, rfl, hK⟩, fun q => absurd (nI_le (show rW R ≤ w by omega) (by omega)) q⟩
    | succ f ih =>
      intro w hw hK
      have hb := (hR.2.2.1 w (by omega)).1
      simp only [onF] at hK
      refine r_M_onBy_2 ?_
      rw [hM.2.1, nI_1]
      refine ⟨fun q => absurd q (nI_ge (show w < rW R by omega) (by omega)), fun _ => c_M_isIn (by omega) hk (by omega) (fun e => ⟨fun q => absurd q (by decide), fun _ => c_M_fromOf (by omega) hR hM (by omega) ⟨fun q => ih (w + 1) (by omega) ?_, fun q => c_M_toOf (by omega) hR hM (by omega) ⟨_, rfl, ?_⟩⟩⟩) (fun e => ⟨fun _ => ih (w + 1) (by omega) ?_, fun q => absurd rfl q⟩)⟩
      · have hno : ¬ (k.testBit w = true ∧ rf R w = c) := fun z => q (by rw [z.2])
        rw [if_neg hno] at hK; exact hK
      · have hyes : k.testBit w = true ∧ rf R w = c := ⟨e, (nI_eq (by omega) (by omega)).mp (Classical.not_not.mp q)⟩
        rw [if_pos hyes] at hK; exact hK
      · have hno : ¬ (k.testBit w = true ∧ rf R w = c) := fun z => e z.1
        rw [if_neg hno] at hK; exact hK
  exact key (rW R) 0 (by omega) h
theorem c_M_isRing {k m : Nat} {K : Int32 → MI → ML → Prop} (hd : 4 ≤ d) (hR : WF R) (hM : MRo (I 706 0) R) (hm : m ≤ 9) (ht : mtA I R m (rW R)) (hk : k < 2 ^ rW R) (h1 : Rng R k → ∀ I', I' 704 0 26 = nI (rgT R m k) → I' 704 0 27 = nI (rgL R k) → rf6 I I' → K 1 I' L) (h0 : ¬ Rng R k → ∀ I', rf6 I I' → K 0 I' L) : CI d m_M_isRing [vR 704 0, vI (nI k)] I L K := by
  have hW := hR.2.1
  have hC := hR.1
  have hk1 : k < 1024 := Nat.lt_of_lt_of_le hk (Nat.pow_le_pow_right (n := 2) (j := 10) (by omega) hW)
  refine toCI (n := 3) hd (r_M_isRing_0 ?_)
  have key : ∀ (b w : Nat) (J : MI), w + b = rW R → ijP R k w → J 704 0 26 = nI (sbN (tN R m) k w) → J 704 0 27 = nI (sbN (rl R) k w) → rf6 I J → XX (3 + 1) m_M_isRing (fun r I' L' => ∃ x, r = some (vI x) ∧ K x I' L') 20 [vR 704 0, vI (nI k), vI (nI (inN (rt R) k w)), vI (nI (inN (rf R) k w)), vI (laV2 k w), vI (nI w), vD] [] J L := by
    intro b
    induction b with
    | zero =>
      intro w J hw hij j6 j7 hF
      have ew : w = rW R := by omega
      subst ew
      have hMJ : MRo (J 706 0) R := by rw [rf6_r hF (by decide)]; exact hM
      have i1 := inN_lt hR (k := k) (rW R) (Nat.le_refl _)
      have i2 := inF_lt hR (k := k) (rW R) (Nat.le_refl _)
      refine r_M_isRing_20 ?_
      rw [hMJ.2.1]
      refine ⟨fun _ => ⟨fun q => ⟨_, rfl, h0 (fun z => (Rng_lt z).2 ((nI_eq (b := 0) (by omega) (by omega)).mp q)) J hF⟩, fun q => ⟨fun q2 => ?_, fun q2 => ⟨_, rfl, h0 (fun z => q2 (by rw [(ring_ij z).2])) J hF⟩⟩⟩, fun q => absurd (nI_le (Nat.le_refl _) (by omega)) q⟩
      have k0 : k ≠ 0 := fun z => q (by rw [z]; rfl)
      have heq : inN (rt R) k (rW R) = inN (rf R) k (rW R) := (nI_eq (by omega) (by omega)).mp q2
      obtain ⟨j, hj, hiff⟩ := ring_end hR hk k0 hij heq
      have hex := ex_bit hk k0
      obtain ⟨l1, l2⟩ := ls_ok (rW R) hex
      rw [laV2_ok (rW R) hex]
      generalize lsN k (rW R) = u at *
      have ut := (hR.2.2.1 u l1).2.1
      have uf := (hR.2.2.1 u l1).1
      refine c_M_toOf (by omega) hR hMJ l1 ?_
      have p10 : popc 10 k ≤ 10 := by
        rw [pop_sb hk1]
        exact sb_le (f := fun _ => 1) (k := k) (B := 1) 10 (fun _ _ => Nat.le_refl _)
      have hjb : j ≤ 6 := by
        have hob : ∀ (f c i : Nat), orb R k (rf R u) f c = some i → i < f := by
          intro f
          induction f with
          | zero => intro c i ho; exact absurd ho (by simp [orb])
          | succ f ih =>
            intro c i ho
            simp only [orb] at ho
            by_cases e : c = rf R u
            · rw [if_pos e] at ho
              have ei : 0 = i := by injection ho
              omega
            · rw [if_neg e] at ho
              cases hx : orb R k (rf R u) f (onF R k c (rW R) 0) with
              | none => rw [hx] at ho; exact absurd ho (by simp)
              | some i' =>
                rw [hx] at ho
                have ei : i' + 1 = i := by injection ho
                have := ih _ _ hx
                omega
        have := hob 7 _ _ hj
        omega
      have loop : ∀ (f n c i : Nat), c < 6 → n ≤ 100 → i ≤ 100 → n + i = j + 1 → f ≤ 7 → orb R k (rf R u) f c = some i → XX (3 + 1) m_M_isRing (fun r I' L' => ∃ x, r = some (vI x) ∧ K x I' L') 159 [vR 704 0, vI (nI k), vD, vD, vI (nI u), vI (nI n), vI (nI c)] [] J L := by
        intro f
        induction f with
        | zero => intro n c i _ _ _ _ _ ho; exact absurd ho (by simp [orb])
        | succ f ih =>
          intro n c i hc hn hi hni hf ho
          simp only [orb] at ho
          refine r_M_isRing_159 (c_M_fromOf (by omega) hR hMJ l1 ⟨fun q => c_M_bitsOf (by omega) hk1 ⟨fun q2 => ⟨_, rfl, h0 (fun z => q2 ?_) J hF⟩, fun q2 => ⟨_, rfl, h1 ?_ J j6 j7 hF⟩⟩, fun q => c_M_onBy (by omega) hR hMJ hk1 hc ?_⟩)
          · have e : c = rf R u := (nI_eq (by omega) (by omega)).mp q
            rw [if_pos e] at ho
            have ei : 0 = i := by injection ho
            have := hiff.mpr z
            rw [show n = popc 10 k by omega]
          · have e : c = rf R u := (nI_eq (by omega) (by omega)).mp q
            rw [if_pos e] at ho
            have ei : 0 = i := by injection ho
            have := (nI_eq (by omega) (by omega)).mp (Classical.not_not.mp q2)
            exact hiff.mp (by omega)
          · have e : ¬ c = rf R u := fun z => q (by rw [z])
            rw [if_neg e] at ho
            rw [nI_1]
            cases hx : orb R k (rf R u) f (onF R k c (rW R) 0) with
            | none => rw [hx] at ho; exact absurd ho (by simp)
            | some i' =>
              rw [hx] at ho
              have ei : i' + 1 = i := by injection ho
              exact ih (n + 1) _ i' (onF_lt hR hc (rW R) 0 (by omega)) (by omega) (by omega) (by omega) (by omega) hx
      exact loop 7 1 (rt R u) j (by omega) (by omega) (by omega) (by omega) (by omega) hj
    | succ b ih =>
      intro w J hw hij j6 j7 hF
      have hMJ : MRo (J 706 0) R := by rw [rf6_r hF (by decide)]; exact hM
      have i1 := inN_lt hR (k := k) w (by omega)
      have i2 := inF_lt hR (k := k) w (by omega)
      have bt := (hR.2.2.1 w (by omega)).2.1
      have bf := (hR.2.2.1 w (by omega)).1
      have nxt := ih (w + 1)
      simp only [sbN, inN, laV2] at nxt
      refine r_M_isRing_20 ?_
      rw [hMJ.2.1]
      refine ⟨fun q => absurd q (nI_ge (show w < rW R by omega) (by omega)), fun _ => c_M_isIn (by omega) hk1 (by omega) (fun e => ⟨fun _ => ?_, fun q => absurd (by decide) q⟩) (fun e => ⟨fun q => absurd rfl q, fun _ => ?_⟩)⟩
      · rw [if_pos e, if_pos e, if_pos e, if_pos e, if_pos e] at nxt
        refine c_M_toOf (by omega) hR hMJ (by omega) (c_M_isIn (k := inN (rt R) k w) (by omega) (by omega) (by omega) (fun y => ⟨fun _ => ⟨_, rfl, h0 (fun z => ?_) J hF⟩, fun q => absurd (by decide) q⟩) (fun y1 => ⟨fun q => absurd rfl q, fun _ => ?_⟩))
        · obtain ⟨v, v1, v2, v3⟩ := (inN_b w).mp y
          exact ((ring_ij z).1 v w v1 (by omega) v2 e).1 v3
        refine c_M_fromOf (by omega) hR hMJ (by omega) (c_M_isIn (k := inN (rf R) k w) (by omega) (by omega) (by omega) (fun y => ⟨fun q => absurd q (by decide), fun _ => ⟨_, rfl, h0 (fun z => ?_) J hF⟩⟩) (fun y2 => ⟨fun _ => ?_, fun q => absurd rfl q⟩))
        · obtain ⟨v, v1, v2, v3⟩ := (inN_b w).mp y
          exact ((ring_ij z).1 v w v1 (by omega) v2 e).2 v3
        refine c_M_toOf (by omega) hR hMJ (by omega) (c_M_fromOf (by omega) hR hMJ (by omega) ⟨vin (by omega) (by omega), ?_⟩)
        rw [cl_n (by omega), rf6_r hF (show 723 ≠ 704 by decide), ht w (by omega), (tN_ok hR (show w < rW R by omega) hm).1, j6, nI_add]
        refine c_M_lagOf (by omega) hR (by rw [ui_off (by decide)]; exact hMJ) (by omega) ?_
        rw [ui_k (show 27 ≠ 26 by decide), j7, nI_add, (or_1 (k := inN (rt R) k w) (w := rt R w) (by omega) (by omega)).1, (or_1 (k := inN (rf R) k w) (w := rf R w) (by omega) (by omega)).1, nI_1]
        refine nxt _ (by omega) (fun v v' hv hv' b1 b2 => ?_) (by rw [ui_k (by decide), ui_s]) (by rw [ui_s]) ((hF.ui (Or.inl rfl)).ui (Or.inr rfl))
        by_cases y : v' = w
        · subst y
          exact ⟨fun z => y1 ((inN_b v').mpr ⟨v, hv, b1, z⟩), fun z => y2 ((inN_b v').mpr ⟨v, hv, b1, z⟩)⟩
        · exact hij v v' hv (by omega) b1 b2
      · rw [if_neg e, if_neg e, if_neg e, if_neg e, if_neg e] at nxt
        rw [nI_1]
        refine nxt J (by omega) (fun v v' hv hv' b1 b2 => ?_) j6 j7 hF
        by_cases y : v' = w
        · subst y; exact absurd b2 e
        · exact hij v v' hv (by omega) b1 b2
  exact key (rW R) 0 _ (by omega) (fun v w _ hw => by omega) (by rw [ui_k (by decide), ui_s]; rfl) (by rw [ui_s]; rfl) ((rf6.rf.ui (Or.inl rfl)).ui (Or.inr rfl))
end RingM

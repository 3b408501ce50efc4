/-! the slowest rings of the reference -/
def rfB (I I' : MI) : Prop := (∀ r a, ¬ (r = 704 ∧ a = 0) → I' r a = I r a) ∧ ∀ j, j < 26 ∨ 31 < j → I' 704 0 j = I 704 0 j
theorem rfB.rf {I : MI} : rfB I I := ⟨fun _ _ _ => rfl, fun _ _ => rfl⟩
theorem rfB.tr {I I' I'' : MI} (h : rfB I I') (h' : rfB I' I'') : rfB I I'' := ⟨fun r a q => (h'.1 r a q).trans (h.1 r a q), fun j q => (h'.2 j q).trans (h.2 j q)⟩
theorem rfB.ui {I I' : MI} {j : Nat} {x : Int32} (h : rfB I I') (h1 : 26 ≤ j) (h2 : j ≤ 31) : rfB I (ui I' 704 0 j x) := by
  refine ⟨fun r a hr => ?_, fun i hi => ?_⟩
  · rw [ui_off (fun z => hr z)]; exact h.1 r a hr
  · rw [ui_k (by omega)]; exact h.2 i hi
theorem rf6_B {I I' : MI} (h : rf6 I I') : rfB I I' := ⟨h.1, fun j hj => h.2 j (by omega) (by omega)⟩
theorem rfB_r {I I' : MI} (h : rfB I I') {r : Nat} (hr : r ≠ 704) : I' r 0 = I r 0 := h.1 r 0 (fun z => hr z.1)
theorem rfB_F {I I' : MI} (h : rfB I I') : mF0 I I' := ⟨fun r a hn => h.1 r a (fun z => hn ⟨Or.inl z.1, z.2⟩), fun j _ => by rw [rfB_r h (by decide)], fun j _ hj => h.2 j (Or.inl (by omega))⟩
def mxj (R : RD) (m o j k : Nat) : Prop := Rng R k ∧ k < j ∧ k &&& o = 0 ∧ ∀ k', Rng R k' → k' < j → k' &&& o = 0 → ple R m k' k
/-- what is laid of the sets below j -/
def slA (I : MI) (R : RD) (m o j : Nat) : Prop := ((∀ x, Rng R x → x < j → x &&& o ≠ 0) ∧ I 704 0 28 = 0 ∧ I 704 0 29 = 0 ∧ I 704 0 30 = 0) ∨ ∃ k0 who, mxj R m o j k0 ∧ I 704 0 28 = nI (rgT R m k0) ∧ I 704 0 29 = nI (rgL R k0) ∧ who < 64 ∧ I 704 0 30 = nI who ∧ ∀ c, who.testBit c = true ↔ ∃ k, mxj R m o j k ∧ (inN (rt R) k (rW R)).testBit c = true
def slB (I : MI) (R : RD) (o j : Nat) : Prop := ∃ fl : List Nat, fl.Nodup ∧ fl.length ≤ j ∧ (∀ x, x ∈ fl ↔ Rng R x ∧ x < j ∧ x &&& o = 0) ∧ I 704 0 31 = nI fl.length
theorem slA_skip {I I' : MI} {R : RD} {m o j : Nat} (h : slA I R m o j) (hn : ¬ (Rng R j ∧ j &&& o = 0)) (e8 : I' 704 0 28 = I 704 0 28) (e9 : I' 704 0 29 = I 704 0 29) (e0 : I' 704 0 30 = I 704 0 30) : slA I' R m o (j + 1) := by
  have ex : ∀ x, Rng R x → x &&& o = 0 → (x < j + 1 ↔ x < j) := fun x hx hz => by
    have : x ≠ j := fun e => hn (e ▸ ⟨hx, hz⟩)
    omega
  have em : ∀ k, mxj R m o (j + 1) k ↔ mxj R m o j k := fun k => ⟨fun ⟨a, b, c, d⟩ => ⟨a, (ex k a c).mp b, c, fun k' x y z => d k' x (by omega) z⟩, fun ⟨a, b, c, d⟩ => ⟨a, by omega, c, fun k' x y z => d k' x ((ex k' x z).mp y) z⟩⟩
  rcases h with ⟨h1, h2, h3, h4⟩ | ⟨k0, who, h1, h2, h3, h4, h5, h6⟩
  · refine Or.inl ⟨fun x hx hlt hz => h1 x hx ((ex x hx hz).mp hlt) hz, by rw [e8]; exact h2, by rw [e9]; exact h3, by rw [e0]; exact h4⟩
  · refine Or.inr ⟨k0, who, (em k0).mpr h1, by rw [e8]; exact h2, by rw [e9]; exact h3, h4, by rw [e0]; exact h5, fun c => (h6 c).trans ⟨?_, ?_⟩⟩
    · rintro ⟨k, a, b⟩; exact ⟨k, (em k).mpr a, b⟩
    · rintro ⟨k, a, b⟩; exact ⟨k, (em k).mp a, b⟩
theorem slB_skip {I I' : MI} {R : RD} {o j : Nat} (h : slB I R o j) (hn : ¬ (Rng R j ∧ j &&& o = 0)) (e : I' 704 0 31 = I 704 0 31) : slB I' R o (j + 1) := by
  obtain ⟨fl, h1, h2, h3, h4⟩ := h
  refine ⟨fl, h1, by omega, fun x => (h3 x).trans ⟨fun ⟨a, b, c⟩ => ⟨a, by omega, c⟩, fun ⟨a, b, c⟩ => ⟨a, ?_, c⟩⟩, by rw [e]; exact h4⟩
  have : x ≠ j := fun e => hn (e ▸ ⟨a, c⟩)
  omega
theorem slB_add {I I' : MI} {R : RD} {o j : Nat} (h : slB I R o j) (hy : Rng R j ∧ j &&& o = 0) (e : I' 704 0 31 = I 704 0 31 + 1) : slB I' R o (j + 1) := by
  obtain ⟨fl, h1, h2, h3, h4⟩ := h
  refine ⟨j :: fl, List.nodup_cons.mpr ⟨fun z => by have := ((h3 j).mp z).2.1; omega, h1⟩, by simp; omega, fun x => ?_, by rw [e, h4, nI_1]; rfl⟩
  rw [List.mem_cons, h3 x]
  constructor
  · rintro (e | ⟨a, b, c⟩)
    · rw [e]; exact ⟨hy.1, by omega, hy.2⟩
    · exact ⟨a, by omega, c⟩
  · rintro ⟨a, b, c⟩
    by_cases y : x = j
    · exact Or.inl y
    · exact Or.inr ⟨a, by omega, c⟩
/-- a ring that is first, or slower than all so far -/
theorem slA_new {I' : MI} {R : RD} (hR : WF R) {m o j : Nat} (hy : Rng R j ∧ j &&& o = 0) (hmx : ∀ k', Rng R k' → k' < j → k' &&& o = 0 → ple R m k' j ∧ ¬ ple R m j k') (e8 : I' 704 0 28 = nI (rgT R m j)) (e9 : I' 704 0 29 = nI (rgL R j)) (e0 : I' 704 0 30 = nI (inN (rt R) j (rW R))) : slA I' R m o (j + 1) := by
  have hm : mxj R m o (j + 1) j := ⟨hy.1, by omega, hy.2, fun k' x y z => by
    by_cases q : k' = j
    · rw [q]; exact Nat.le_refl _
    · exact (hmx k' x (by omega) z).1⟩
  refine Or.inr ⟨j, inN (rt R) j (rW R), hm, e8, e9, inN_lt hR _ (Nat.le_refl _), e0, fun c => ⟨fun z => ⟨j, hm, z⟩, ?_⟩⟩
  rintro ⟨k, a, b⟩
  by_cases q : k = j
  · rw [q] at b; exact b
  · exact absurd (a.2.2.2 j hy.1 (by omega) hy.2) (hmx k a.1 (by have := a.2.1; omega) a.2.2.1).2
theorem slA_same {I' : MI} {R : RD} (hR : WF R) {m o j k0 who : Nat} (hy : Rng R j ∧ j &&& o = 0) (h1 : mxj R m o j k0) (hw : who < 64) (hb : ∀ c, who.testBit c = true ↔ ∃ k, mxj R m o j k ∧ (inN (rt R) k (rW R)).testBit c = true) (p1 : ple R m j k0) (p2 : ple R m k0 j) (e8 : I' 704 0 28 = nI (rgT R m k0)) (e9 : I' 704 0 29 = nI (rgL R k0)) (e0 : I' 704 0 30 = nI (who ||| inN (rt R) j (rW R))) : slA I' R m o (j + 1) := by
  have all : ∀ k', Rng R k' → k' < j + 1 → k' &&& o = 0 → ple R m k' k0 := fun k' x y z => by
    by_cases q : k' = j
    · rw [q]; exact p1
    · exact h1.2.2.2 k' x (by omega) z
  have hm0 : mxj R m o (j + 1) k0 := ⟨h1.1, by have := h1.2.1; omega, h1.2.2.1, all⟩
  have hmj : mxj R m o (j + 1) j := ⟨hy.1, by omega, hy.2, fun k' x y z => ple_tr hR h1.1 (all k' x y z) p2⟩
  refine Or.inr ⟨k0, _, hm0, e8, e9, Nat.or_lt_two_pow (n := 6) hw (inN_lt hR _ (Nat.le_refl _)), e0, fun c => ?_⟩
  rw [Nat.testBit_or, Bool.or_eq_true, hb c]
  constructor
  · rintro (⟨k, a, b⟩ | b)
    · exact ⟨k, ⟨a.1, by have := a.2.1; omega, a.2.2.1, fun k' x y z => ple_tr hR h1.1 (all k' x y z) (a.2.2.2 k0 h1.1 h1.2.1 h1.2.2.1)⟩, b⟩
    · exact ⟨j, hmj, b⟩
  · rintro ⟨k, a, b⟩
    by_cases q : k = j
    · rw [q] at b; exact Or.inr b
    · exact Or.inl ⟨k, ⟨a.1, by have := a.2.1; omega, a.2.2.1, fun k' x y z => a.2.2.2 k' x (by omega) z⟩, b⟩
theorem slA_less {I I' : MI} {R : RD} (hR : WF R) {m o j k0 who : Nat} (hy : Rng R j ∧ j &&& o = 0) (h1 : mxj R m o j k0) (hw : who < 64) (hb : ∀ c, who.testBit c = true ↔ ∃ k, mxj R m o j k ∧ (inN (rt R) k (rW R)).testBit c = true) (p1 : ple R m j k0) (p2 : ¬ ple R m k0 j) (e8 : I' 704 0 28 = nI (rgT R m k0)) (e9 : I' 704 0 29 = nI (rgL R k0)) (e0 : I' 704 0 30 = nI who) : slA I' R m o (j + 1) := by
  have all : ∀ k', Rng R k' → k' < j + 1 → k' &&& o = 0 → ple R m k' k0 := fun k' x y z => by
    by_cases q : k' = j
    · rw [q]; exact p1
    · exact h1.2.2.2 k' x (by omega) z
  have hm0 : mxj R m o (j + 1) k0 := ⟨h1.1, by have := h1.2.1; omega, h1.2.2.1, all⟩
  refine Or.inr ⟨k0, who, hm0, e8, e9, hw, e0, fun c => (hb c).trans ⟨?_, ?_⟩⟩
  · rintro ⟨k, a, b⟩
    exact ⟨k, ⟨a.1, by have := a.2.1; omega, a.2.2.1, fun k' x y z => ple_tr hR h1.1 (all k' x y z) (a.2.2.2 k0 h1.1 h1.2.1 h1.2.2.1)⟩, b⟩
  · rintro ⟨k, a, b⟩
    by_cases q : k = j
    · rw [q] at a; exact absurd (a.2.2.2 k0 h1.1 (by have := h1.2.1; omega) h1.2.2.1) p2
    · exact ⟨k, ⟨a.1, by have := a.2.1; omega, a.2.2.1, fun k' x y z => a.2.2.2 k' x (by omega) z⟩, b⟩
theorem more_i {a b c e : Nat} (ha : a ≤ 9990) (hb : b ≤ 20) (hc : c ≤ 9990) (he : e ≤ 20) : ((((nI a).toInt64) * ((nI b).toInt64)) - (((nI c).toInt64) * ((nI e).toInt64))).toInt = ((a * b : Nat) : Int) - ((c * e : Nat) : Int) := by
  have p1 := Nat.mul_le_mul ha hb
  have p2 := Nat.mul_le_mul hc he
  rw [nI_l (by omega), nI_l (by omega), nI_l (by omega), nI_l (by omega), lN_mul, lN_mul, Int64.toInt_sub, pk_lT (by omega), pk_lT (by omega)]
  exact Int.bmod_eq_of_le (by omega) (by omega)
section SlowM
variable {d : Nat} {I : MI} {L : ML} {R : RD} {s : SA} {P : List SA}
theorem c_M_laysSlow {o m : Nat} {K : MI → ML → Prop} (hd : 6 ≤ d) (hO : CoO R s P) (hc : CoM I R s P) (em : s.2.2.2.1 = nI m) (hm : m ≤ 9) (h : ∀ I', slA I' R m o (2 ^ rW R) → slB I' R o (2 ^ rW R) → CoM I' R s P → mF0 I I' → I' 704 0 0 = I 704 0 0 → K I' L) : CV d m_M_laysSlow [vR 704 0, vI (nI o)] I L K := by
  have hR := hO.1
  have hW := hR.2.1
  have hC := hR.1
  have hW2 : 2 ^ rW R ≤ 1024 := Nat.pow_le_pow_right (n := 2) (j := 10) (by omega) hW
  have hWp : 0 < 2 ^ rW R := Nat.pow_pos (by omega)
  refine toCV (n := 5) hd (r_M_laysSlow_0 ?_)
  rw [hc.2.1.2.1, em]
  refine c_M_laysTimes (by omega) hR hc.1 hm (fun I1 ht1 _ ho1 hS1 => ?_)
  have hS1 : Same grS I I1 := hS1.mono (fun r a q => ⟨by rcases q.1 with y | y | y | y <;> simp [y], q.2⟩)
  have n61 : I1 706 0 = I 706 0 := gr_no hS1 (by decide)
  have hF1 : mF0 I I1 := gr_F0 hS1 ho1
  have hM1 : MRo (I1 706 0) R := by rw [n61]; exact hc.1
  have key : ∀ (f j : Nat) (J : MI), j + f = 2 ^ rW R → slA J R m o j → slB J R o j → rfB I1 J → XX (5 + 1) m_M_laysSlow (fun r I' L' => r = none ∧ K I' L') 33 [vR 704 0, vI (nI o), vI (nI j), vD, vD, vD] [] J L := by
    intro f
    induction f with
    | zero =>
      intro j J hj hA hB hF
      have n6 : J 706 0 = I1 706 0 := rfB_r hF (by decide)
      refine r_M_laysSlow_33 ?_
      rw [n6, hM1.2.1, sh_1 hW]
      refine ⟨fun _ => ⟨rfl, h J ?_ ?_ (CoM_cg hR hc (n6.trans n61)) (hF1.tr (rfB_F hF)) (by rw [hF.2 0 (by omega), ho1 0 (by decide) (by decide)])⟩, fun q => absurd (nI_le (show 2 ^ rW R ≤ j by omega) (by omega)) q⟩
      · rw [show 2 ^ rW R = j by omega]; exact hA
      · rw [show 2 ^ rW R = j by omega]; exact hB
    | succ f ih =>
      intro j J hj hA hB hF
      have n6 : J 706 0 = I1 706 0 := rfB_r hF (by decide)
      have n3 : J 723 0 = I1 723 0 := rfB_r hF (by decide)
      have hMJ : MRo (J 706 0) R := by rw [n6]; exact hM1
      have hj1 : j < 1024 := by omega
      refine r_M_laysSlow_33 ?_
      rw [hMJ.2.1, sh_1 hW, nI_1]
      refine ⟨fun q => absurd q (nI_ge (show j < 2 ^ rW R by omega) (by omega)), fun _ => ⟨fun q => ?_, fun q => ?_⟩⟩
      · have hno : ¬ (Rng R j ∧ j &&& o = 0) := fun z => q ((and_0 hj1).mpr z.2)
        exact ih (j + 1) J (by omega) (slA_skip hA hno rfl rfl rfl) (slB_skip hB hno rfl) hF
      · have hz : j &&& o = 0 := (and_0 hj1).mp (Classical.not_not.mp q)
        refine c_M_isRing (by omega) hR hMJ hm (fun w hw => by rw [n3]; exact ht1 w hw) (by omega) (fun hr J3 j26 j27 hF3 => ⟨fun _ => ?_, fun q => absurd (by decide) q⟩) (fun hr J3 hF3 => ⟨fun q => absurd rfl q, fun _ => ?_⟩)
        · have hy : Rng R j ∧ j &&& o = 0 := ⟨hr, hz⟩
          have hB3 : slB (ui J3 704 0 31 (J3 704 0 31 + 1)) R o (j + 1) := slB_add hB hy (by rw [ui_s, hF3.2 31 (by decide) (by decide)])
          have g26 : ui J3 704 0 31 (J3 704 0 31 + 1) 704 0 26 = nI (rgT R m j) := by rw [ui_k (by decide)]; exact j26
          have g27 : ui J3 704 0 31 (J3 704 0 31 + 1) 704 0 27 = nI (rgL R j) := by rw [ui_k (by decide)]; exact j27
          have g28 : ui J3 704 0 31 (J3 704 0 31 + 1) 704 0 28 = J 704 0 28 := by rw [ui_k (by decide), hF3.2 28 (by decide) (by decide)]
          have g29 : ui J3 704 0 31 (J3 704 0 31 + 1) 704 0 29 = J 704 0 29 := by rw [ui_k (by decide), hF3.2 29 (by decide) (by decide)]
          have g30 : ui J3 704 0 31 (J3 704 0 31 + 1) 704 0 30 = J 704 0 30 := by rw [ui_k (by decide), hF3.2 30 (by decide) (by decide)]
          have hF4 : rfB I1 (ui J3 704 0 31 (J3 704 0 31 + 1)) := (hF.tr (rf6_B hF3)).ui (by omega) (by omega)
          generalize ui J3 704 0 31 (J3 704 0 31 + 1) = J4 at *
          have t1 := rgT_le hR (m := m) (k := j) hm
          have l1 := rgL_le hR (k := j)
          have lp := rgL_pos hR hr
          have add : ∀ (J5 : MI) (who : Nat), who < 64 → J5 704 0 30 = nI who → rfB I1 J5 → (∀ J6, J6 704 0 30 = nI (who ||| inN (rt R) j (rW R)) → (∀ i, i ≠ 30 → J6 704 0 i = J5 704 0 i) → rfB I1 J6 → XX (5 + 1) m_M_laysSlow (fun r I' L' => r = none ∧ K I' L') 33 [vR 704 0, vI (nI o), vI (nI (j + 1)), vD, vD, vD] [] J6 L) → XX (5 + 1) m_M_laysSlow (fun r I' L' => r = none ∧ K I' L') 146 [vR 704 0, vI (nI o), vI (nI j), vD, vD, vI 0] [] J5 L := by
            intro J5 who hw e30 hF5 hgo
            have lp2 : ∀ (b w : Nat) (J6 : MI), w + b = rW R → J6 704 0 30 = nI (who ||| inN (rt R) j w) → (∀ i, i ≠ 30 → J6 704 0 i = J5 704 0 i) → rfB I1 J6 → XX (5 + 1) m_M_laysSlow (fun r I' L' => r = none ∧ K I' L') 146 [vR 704 0, vI (nI o), vI (nI j), vD, vD, vI (nI w)] [] J6 L := by
              intro b
              induction b with
              | zero =>
                intro w J6 hw' e6 e7 hF6
                have n66 : J6 706 0 = I1 706 0 := rfB_r hF6 (by decide)
                refine r_M_laysSlow_146 ?_
                rw [n66, hM1.2.1, nI_1]
                refine ⟨fun _ => hgo J6 ?_ e7 hF6, fun q => absurd (nI_le (show rW R ≤ w by omega) (by omega)) q⟩
                rw [show rW R = w by omega]; exact e6
              | succ b ihb =>
                intro w J6 hw' e6 e7 hF6
                have n66 : J6 706 0 = I1 706 0 := rfB_r hF6 (by decide)
                have hM6 : MRo (J6 706 0) R := by rw [n66]; exact hM1
                have bt := (hR.2.2.1 w (by omega)).2.1
                have hlt : who ||| inN (rt R) j w < 64 := Nat.or_lt_two_pow (n := 6) hw (inN_lt hR w (by omega))
                have nx := ihb (w + 1)
                simp only [inN] at nx
                refine r_M_laysSlow_146 ?_
                rw [hM6.2.1, nI_1 (a := w)]
                refine ⟨fun q => absurd q (nI_ge (show w < rW R by omega) (by omega)), fun _ => c_M_isIn (by omega) hj1 (by omega) (fun e => ⟨fun q => absurd q (by decide), fun _ => c_M_toOf (by omega) hR hM6 (by omega) ?_⟩) (fun e => ⟨fun _ => ?_, fun q => absurd rfl q⟩)⟩
                · rw [e6, (or_1 (k := who ||| inN (rt R) j w) (w := rt R w) (by omega) (by omega)).1]
                  refine nx _ (by omega) ?_ (fun i hi => by rw [ui_k hi]; exact e7 i hi) (hF6.ui (by omega) (by omega))
                  rw [ui_s, if_pos e, Nat.or_assoc]
                · refine nx J6 (by omega) ?_ e7 hF6
                  rw [if_neg e]; exact e6
            exact lp2 (rW R) 0 J5 (by omega) (by show _ = nI (who ||| 0); rw [Nat.or_zero]; exact e30) (fun _ _ => rfl) hF5
          have newr : (∀ k', Rng R k' → k' < j → k' &&& o = 0 → ple R m k' j ∧ ¬ ple R m j k') → XX (5 + 1) m_M_laysSlow (fun r I' L' => r = none ∧ K I' L') 146 [vR 704 0, vI (nI o), vI (nI j), vD, vD, vI 0] [] (ui (ui (ui J4 704 0 28 (J4 704 0 26)) 704 0 29 ((ui J4 704 0 28 (J4 704 0 26)) 704 0 27)) 704 0 30 0) L := by
            intro hmx
            refine add _ 0 (by omega) (by rw [ui_s]; rfl) (((hF4.ui (by omega) (by omega)).ui (by omega) (by omega)).ui (by omega) (by omega)) (fun J6 e30 e7 hF6 => ih (j + 1) J6 (by omega) (slA_new hR hy hmx ?_ ?_ ?_) ?_ hF6)
            · rw [e7 28 (by decide), ui_k (by decide), ui_k (by decide), ui_s, g26]
            · rw [e7 29 (by decide), ui_k (by decide), ui_s, ui_k (by decide), g27]
            · rw [e30, Nat.zero_or]
            · obtain ⟨fl, a1, a2, a3, a4⟩ := hB3
              exact ⟨fl, a1, a2, a3, by rw [e7 31 (by decide), ui_k (by decide), ui_k (by decide), ui_k (by decide)]; exact a4⟩
          rw [g29]
          rcases hA with ⟨h1, h2, h3, h4⟩ | ⟨k0, who, h1, h2, h3, h4, h5, h6⟩
          · rw [h3]
            have c1 : ¬ lg_cmp (1 : Int64) (0 : Int64) ≤ 0 := by decide
            have c0 : 0 ≤ lg_cmp (1 : Int64) (0 : Int64) := by decide
            exact ⟨fun q => absurd rfl q, fun _ => ⟨fun _ => ⟨fun q => absurd q c1, fun _ => newr (fun k' x y z => absurd z (h1 k' x y))⟩, fun q => absurd c0 q⟩⟩
          · have t0 := rgT_le hR (m := m) (k := k0) hm
            have l0 := rgL_le hR (k := k0)
            have lp0 := rgL_pos hR h1.1
            have mi := more_i (a := rgT R m j) (b := rgL R k0) (c := rgT R m k0) (e := rgL R j) t1 l0 t0 l1
            have o0 : (0 : Int64).toInt = 0 := rfl
            rw [h3, g26, g27, g28, h2]
            generalize hq : ((((nI (rgT R m j)).toInt64) * ((nI (rgL R k0)).toInt64)) - (((nI (rgT R m k0)).toInt64) * ((nI (rgL R j)).toInt64))) = z at *
            refine ⟨fun _ => ⟨fun q1 => ⟨fun q2 => ?_, fun q2 => ?_⟩, fun q1 => ?_⟩, fun q => absurd (nI_ne0 lp0 (by omega)) q⟩
            · have a1 := Int32.not_lt.mpr q1
              rw [cmp_lt, o0, mi] at a1
              rw [cmp_le, o0, mi] at q2
              have p1 : ple R m j k0 := by unfold ple; omega
              have p2 : ple R m k0 j := by unfold ple; omega
              refine add J4 who h4 (by rw [g30]; exact h5) hF4 (fun J6 e30 e7 hF6 => ih (j + 1) J6 (by omega) (slA_same hR hy h1 h4 h6 p1 p2 (by rw [e7 28 (by decide), g28]; exact h2) (by rw [e7 29 (by decide), g29]; exact h3) e30) ?_ hF6)
              obtain ⟨fl, a1, a2, a3, a4⟩ := hB3
              exact ⟨fl, a1, a2, a3, by rw [e7 31 (by decide)]; exact a4⟩
            · rw [cmp_le, o0, mi] at q2
              have p2 : ¬ ple R m j k0 := by unfold ple; omega
              have p1 : ple R m k0 j := by unfold ple; omega
              have := newr (fun k' x y z => ⟨ple_tr hR h1.1 (h1.2.2.2 k' x y z) p1, fun q => p2 (ple_tr hR x q (h1.2.2.2 k' x y z))⟩)
              rw [g26] at this
              exact this
            · have q1 := Int32.not_le.mp q1
              rw [cmp_lt, o0, mi] at q1
              have p2 : ¬ ple R m k0 j := by unfold ple; omega
              have p1 : ple R m j k0 := by unfold ple; omega
              exact ih (j + 1) J4 (by omega) (slA_less (I := J4) hR hy h1 h4 h6 p1 p2 (by rw [g28]; exact h2) (by rw [g29]; exact h3) (by rw [g30]; exact h5)) hB3 hF4
        · have hno : ¬ (Rng R j ∧ j &&& o = 0) := fun z => hr z.1
          exact ih (j + 1) J3 (by omega) (slA_skip hA hno (hF3.2 28 (by decide) (by decide)) (hF3.2 29 (by decide) (by decide)) (hF3.2 30 (by decide) (by decide))) (slB_skip hB hno (hF3.2 31 (by decide) (by decide))) (hF.tr (rf6_B hF3))
  refine key (2 ^ rW R - 1) 1 _ (by omega) (Or.inl ⟨fun x hx hlt => absurd (show x = 0 by omega) (Rng_lt hx).2, ?_, ?_, ?_⟩) ⟨[], List.nodup_nil, by simp, fun x => ⟨fun z => absurd z List.not_mem_nil, fun ⟨a, b, _⟩ => absurd (show x = 0 by omega) (Rng_lt a).2⟩, ?_⟩ ((((rfB.rf.ui (by omega) (by omega)).ui (by omega) (by omega)).ui (by omega) (by omega)).ui (by omega) (by omega))
  · rw [ui_k (by decide), ui_k (by decide), ui_s]
  · rw [ui_k (by decide), ui_k (by decide), ui_k (by decide), ui_s]
  · rw [ui_k (by decide), ui_s]
  · rw [ui_s]; rfl
end SlowM

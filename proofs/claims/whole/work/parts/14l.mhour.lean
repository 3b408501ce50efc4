/-! hour, leaves of the reference -/
def h7F (I I' : MI) : Prop := ∀ r a, ¬ (r = 737 ∧ a = 0) → I' r a = I r a
theorem h7F.ui {I I' : MI} {k : Nat} {x : Int32} (h : h7F I I') : h7F I (ui I' 737 0 k x) := fun r a q => by rw [ui_off q]; exact h r a q
theorem h7_F {I I' : MI} (h : h7F I I') : mF0 I I' := ⟨fun r a hn => h r a (fun z => hn ⟨Or.inr (Or.inr (by omega)), z.2⟩), fun j _ => by rw [h 706 0 (by omega)], fun j _ _ => by rw [h 704 0 (by omega)]⟩
section HourM
variable {d : Nat} {I : MI} {L : ML} {R : RD} {s : SA} {P : List SA}
theorem c_M_laysHours {o m : Nat} {p : Int32} {K : Int32 → MI → ML → Prop} (hd : 5 ≤ d) (hO : CoO R s P) (hc : CoM I R s P) (em : s.2.2.2.1 = nI m) (hm : m ≤ 9) (ho : o < 1024) (h1 : ∀ g, kpN R m p o 7 (fun _ => 0) = some g → ∀ I', (∀ c, c < 6 → I' 737 0 c = g c) → CoM I' R s P → mF0 I I' → I' 704 0 0 = I 704 0 0 → K 1 I' L) (h0 : kpN R m p o 7 (fun _ => 0) = none → ∀ I', CoM I' R s P → mF0 I I' → I' 704 0 0 = I 704 0 0 → K 0 I' L) : CI d m_M_laysHours [vR 704 0, vI p, vI (nI o)] I L K := by
  have hR := hO.1
  have hW := hR.2.1
  have hC := hR.1
  refine toCI (n := 4) hd (r_M_laysHours_0 ?_)
  rw [hc.2.1.2.1, em]
  refine c_M_laysTimes (by omega) hR hc.1 hm (fun I1 ht1 _ ho1 hS1 => ?_)
  have hS1 : Same grS I I1 := hS1.mono (fun r a q => ⟨by rcases q.1 with y | y | y | y <;> simp [y], q.2⟩)
  have n61 : I1 706 0 = I 706 0 := gr_no hS1 (by decide)
  have hc1 : CoM I1 R s P := CoM_cg hR hc n61
  have hF1 : mF0 I I1 := gr_F0 hS1 ho1
  have t1 : I1 704 0 0 = I 704 0 0 := ho1 0 (by decide) (by decide)
  have fn : ∀ J, h7F I1 J → CoM J R s P ∧ mF0 I J ∧ J 704 0 0 = I 704 0 0 := fun J hJ => ⟨CoM_cg hR hc1 (hJ 706 0 (by omega)), hF1.tr (h7_F hJ), by rw [hJ 704 0 (by omega)]; exact t1⟩
  have rounds : ∀ (f n : Nat) (g : Nat → Int32) (J : MI), n + f = 7 → kpN R m p o f g = kpN R m p o 7 (fun _ => 0) → (∀ c, c < 6 → J 737 0 c = g c) → h7F I1 J → XX (4 + 1) m_M_laysHours (fun r I' L' => ∃ x, r = some (vI x) ∧ K x I' L') 34 [vR 704 0, vI p, vI (nI o), vI (nI n), vD, vD, vD] [] J L := by
    intro f
    induction f with
    | zero =>
      intro n g J hn he hg hJ
      have en : n = 7 := by omega
      subst en
      obtain ⟨a, b, c⟩ := fn J hJ
      exact r_M_laysHours_34 ⟨fun _ => ⟨_, rfl, h0 he.symm J a b c⟩, fun q => absurd (by decide) q⟩
    | succ f ih =>
      intro n g J hn he hg hJ
      have he2 : kpN R m p o (f + 1) g = if (psN R m p o g (rW R)).2 = true then kpN R m p o f (psN R m p o g (rW R)).1 else some (psN R m p o g (rW R)).1 := rfl
      rw [he2] at he
      refine r_M_laysHours_34 ⟨fun q => absurd q (nI_nlt (a := 6) (b := n) (by omega) (by omega)), fun _ => ?_⟩
      have key : ∀ (b w : Nat) (J2 : MI), w + b = rW R → (∀ c, c < 6 → J2 737 0 c = (psN R m p o g w).1 c) → h7F I1 J2 → XX (4 + 1) m_M_laysHours (fun r I' L' => ∃ x, r = some (vI x) ∧ K x I' L') 46 [vR 704 0, vI p, vI (nI o), vI (nI n), vI (if (psN R m p o g w).2 = true then 1 else 0), vI (nI w), vD] [] J2 L := by
        intro b
        induction b with
        | zero =>
          intro w J2 hw hg2 hJ2
          have ew : w = rW R := by omega
          subst ew
          obtain ⟨a, b, c⟩ := fn J2 hJ2
          refine r_M_laysHours_46 ?_
          rw [a.1.2.1, nI_1]
          refine ⟨fun _ => ?_, fun q => absurd (nI_le (Nat.le_refl _) (by omega)) q⟩
          by_cases y : (psN R m p o g (rW R)).2 = true
          · rw [if_pos y] at he ⊢
            exact ⟨fun _ => ih (n + 1) _ J2 (by omega) he hg2 hJ2, fun q => absurd (by decide) q⟩
          · rw [if_neg y] at he ⊢
            exact ⟨fun q => absurd rfl q, fun _ => ⟨_, rfl, h1 _ he.symm J2 hg2 a b c⟩⟩
        | succ b ihb =>
          intro w J2 hw hg2 hJ2
          have n6 : J2 706 0 = I1 706 0 := hJ2 706 0 (by omega)
          have n3 : J2 723 0 = I1 723 0 := hJ2 723 0 (by omega)
          have hMJ : MRo (J2 706 0) R := by rw [n6]; exact hc1.1
          obtain ⟨b1, b2, _, _⟩ := hR.2.2.1 w (by omega)
          have nxt := ihb (w + 1)
          refine r_M_laysHours_46 ?_
          rw [hMJ.2.1, nI_1 (a := w)]
          refine ⟨fun q => absurd q (nI_ge (show w < rW R by omega) (by omega)), fun _ => c_M_fromOf (by omega) hR hMJ (by omega) ⟨vin (by omega) (by omega), vin (by omega) (by omega), c_M_lagOf (by omega) hR hMJ (by omega) ?_⟩⟩
          rw [cl_n (by omega), cl_n (by omega), n3, ht1 w (by omega), (tN_ok hR (show w < rW R by omega) hm).1, hg2 _ (by omega)]
          refine c_M_isIn (by omega) ho (by omega) (fun e => ⟨fun _ => ?_, fun q => absurd (by decide) q⟩) (fun e => ⟨fun q => absurd rfl q, fun _ => c_M_toOf (by omega) hR hMJ (by omega) ?_⟩)
          · have hno : ¬ (o.testBit w = false ∧ (psN R m p o g w).1 (rt R w) < ((psN R m p o g w).1 (rf R w) + nI (tN R m w)) - nI (rl R w) * p) := fun z => by rw [e] at z; exact absurd z.1 (by decide)
            rw [ps_n hno] at nxt
            exact nxt J2 (by omega) hg2 hJ2
          · have e : o.testBit w = false := by simpa using e
            rw [cl_n (by omega), hg2 _ (by omega)]
            refine ⟨vin (by omega) (by omega), fun q => c_M_toOf (by omega) hR hMJ (by omega) ⟨vin (by omega) (by omega), ?_⟩, fun q => ?_⟩
            · rw [cl_n (by omega)]
              have hyes : o.testBit w = false ∧ (psN R m p o g w).1 (rt R w) < ((psN R m p o g w).1 (rf R w) + nI (tN R m w)) - nI (rl R w) * p := ⟨e, q⟩
              rw [ps_y hyes] at nxt
              refine nxt _ (by omega) (fun c hc6 => ?_) hJ2.ui
              show _ = if c = rt R w then ((psN R m p o g w).1 (rf R w) + nI (tN R m w)) - nI (rl R w) * p else (psN R m p o g w).1 c
              by_cases y : c = rt R w
              · rw [y, ui_s, if_pos rfl]
              · rw [ui_k y, if_neg y]; exact hg2 c hc6
            · have hno : ¬ (o.testBit w = false ∧ (psN R m p o g w).1 (rt R w) < ((psN R m p o g w).1 (rf R w) + nI (tN R m w)) - nI (rl R w) * p) := fun z => q z.2
              rw [ps_n hno] at nxt
              exact nxt J2 (by omega) hg2 hJ2
      exact key (rW R) 0 J (by omega) hg hJ
  have fill : ∀ (b c : Nat) (J : MI), c + b = 6 → (∀ e, e < c → J 737 0 e = 0) → h7F I1 J → XX (4 + 1) m_M_laysHours (fun r I' L' => ∃ x, r = some (vI x) ∧ K x I' L') 13 [vR 704 0, vI p, vI (nI o), vI (nI c), vD, vD, vD] [] J L := by
    intro b
    induction b with
    | zero =>
      intro c J hc6 hz hJ
      have ec : c = 6 := by omega
      subst ec
      exact r_M_laysHours_13 ⟨fun _ => rounds 7 0 (fun _ => 0) J (by omega) rfl hz hJ, fun q => absurd (by decide) q⟩
    | succ b ih =>
      intro c J hc6 hz hJ
      refine r_M_laysHours_13 ?_
      rw [cl_n (by omega), nI_1]
      refine ⟨fun q => absurd q (nle_c (m := 6) (by omega) (by omega)), fun _ => ⟨vin (by omega) (by omega), ih (c + 1) _ (by omega) (fun e he => ?_) hJ.ui⟩⟩
      by_cases y : e = c
      · rw [y, ui_s]
      · rw [ui_k y]; exact hz e (by omega)
  exact fill 6 0 I1 (by omega) (fun e he => by omega) (fun _ _ _ => rfl)
theorem m_hour {m : Nat} {c p : Int32} {K : Int32 → MI → ML → Prop} (hd : 6 ≤ d) (hO : CoO R s P) (hc : CoM I R s P) (em : s.2.2.2.1 = nI m) (hm : m ≤ 9) (h2 : ¬ isC R c → K (-2) (ui I 704 0 0 0) L) (h3 : isC R c → ¬ plR p → K (-3) (ui I 704 0 0 0) L) (h : isC R c → plR p → ∀ I', CoM I' R s P → mFr I I' → K (hrO R m p c.toInt.toNat) I' L) : CI d m_M_hour [vR 704 0, vI c, vI p] I L K := by
  have hR := hO.1
  have hC := hR.1
  have ec := Int32.toInt_toInt64 c
  have ep := Int32.toInt_toInt64 p
  have o1 : (1 : Int64).toInt = 1 := rfl
  have o9 : (999 : Int64).toInt = 999 := rfl
  have hc0 : CoM (ui I 704 0 0 0) R s P := CoM_cg hR hc t0_6
  refine toCI (n := 5) hd (r_M_hour_0 (c_M_isCoach (by omega) hR hc0.1 (fun g1 g2 => ⟨fun _ => ?_, fun q => absurd (by decide) q⟩) (fun g => ⟨fun q => absurd rfl q, fun _ => ⟨_, rfl, h2 (by rw [ec] at g; exact g)⟩⟩)))
  rw [ec] at g1 g2
  refine c_M_within (by omega) (fun g3 g4 => ⟨fun _ => ?_, fun q => absurd (by decide) q⟩) (fun g => ⟨fun q => absurd rfl q, fun _ => ⟨_, rfl, h3 ⟨g1, g2⟩ (fun z => g (by rw [ep, o1, o9]; exact z))⟩⟩)
  rw [ep, o1] at g3
  rw [ep, o9] at g4
  have fin := h ⟨g1, g2⟩ ⟨g3, g4⟩
  have e1 := ge_nI g1
  have b1 : c.toInt.toNat < rC R := by omega
  clear g1 g2 h2 h3 h ec
  generalize c.toInt.toNat = c' at *
  subst e1
  unfold hrO at fin
  refine c_M_laysHours (o := 0) (by omega) hO hc0 em hm (by omega) (fun g hg I' hgI hc' hF' ht' => ⟨fun q => absurd q (by decide), fun _ => ⟨vin (by omega) (by omega), _, rfl, ?_⟩⟩) (fun hg I' hc' hF' ht' => ⟨fun _ => ⟨_, rfl, ?_⟩, fun q => absurd rfl q⟩)
  · rw [hg] at fin
    rw [cl_n (by omega), hgI c' (by omega)]
    exact fin I' hc' ⟨t0_F.tr hF', by rw [ht', ui_s]⟩
  · rw [hg] at fin
    exact fin I' hc' ⟨t0_F.tr hF', by rw [ht', ui_s]⟩
theorem m_leaves {m : Nat} {p w : Int32} {K : Int32 → MI → ML → Prop} (hd : 6 ≤ d) (hO : CoO R s P) (hc : CoM I R s P) (em : s.2.2.2.1 = nI m) (hm : m ≤ 9) (h2 : ¬ lwR w → K (-2) (ui I 704 0 0 0) L) (h3 : lwR w → ¬ plR p → K (-3) (ui I 704 0 0 0) L) (h : lwR w → plR p → ∀ b, bsP R m p.toInt.toNat b → ∀ I', CoM I' R s P → mFr I I' → K (if w = 0 then nI (popc 10 b) else nI b) I' L) : CI d m_M_leaves [vR 704 0, vI p, vI w] I L K := by
  have hR := hO.1
  have hW := hR.2.1
  have hW2 : 2 ^ rW R ≤ 1024 := Nat.pow_le_pow_right (n := 2) (j := 10) (by omega) hW
  have hWp : 0 < 2 ^ rW R := Nat.pow_pos (by omega)
  have ew := Int32.toInt_toInt64 w
  have ep := Int32.toInt_toInt64 p
  have o0 : (0 : Int64).toInt = 0 := rfl
  have o1 : (1 : Int64).toInt = 1 := rfl
  have o9 : (999 : Int64).toInt = 999 := rfl
  have hc0 : CoM (ui I 704 0 0 0) R s P := CoM_cg hR hc t0_6
  refine toCI (n := 5) hd (r_M_leaves_0 (c_M_within (by omega) (fun g1 g2 => ⟨fun _ => ?_, fun q => absurd (by decide) q⟩) (fun g => ⟨fun q => absurd rfl q, fun _ => ⟨_, rfl, h2 (fun z => g (by rw [ew, o0, o1]; exact z))⟩⟩)))
  rw [ew, o0] at g1
  rw [ew, o1] at g2
  refine c_M_within (by omega) (fun g3 g4 => ⟨fun _ => ?_, fun q => absurd (by decide) q⟩) (fun g => ⟨fun q => absurd rfl q, fun _ => ⟨_, rfl, h3 ⟨g1, g2⟩ (fun z => g (by rw [ep, o1, o9]; exact z))⟩⟩)
  rw [ep, o1] at g3
  rw [ep, o9] at g4
  have fin := h ⟨g1, g2⟩ ⟨g3, g4⟩
  have e1 := ge_nI (a := p) (by omega)
  have b1 : p.toInt.toNat ≤ 999 := by omega
  clear g3 g4 h2 h3 h ep
  generalize p.toInt.toNat = p' at *
  subst e1
  have p10 : ∀ k, k < 1024 → popc 10 k ≤ 10 := fun k hk' => by
    rw [pop_sb hk']
    exact sb_le (f := fun _ => 1) (k := k) (B := 1) 10 (fun _ _ => Nat.le_refl _)
  have key : ∀ (j b : Nat) (J : MI), j ≤ 2 ^ rW R → b < 2 ^ rW R → fsP R m p' b → (∀ o', j ≤ o' → o' < 2 ^ rW R → fsP R m p' o' → popc 10 b < popc 10 o' ∨ (popc 10 b = popc 10 o' ∧ b ≤ o')) → CoM J R s P → mF0 I J → J 704 0 0 = 0 → XX (5 + 1) m_M_leaves (fun r I' L' => ∃ x, r = some (vI x) ∧ K x I' L') 47 [vR 704 0, vI (nI p'), vI w, vI (nI b), vI (yy j)] [] J L := by
    intro j
    induction j with
    | zero =>
      intro b J _ hb hf hall hcJ hF ht
      have fb := fin b ⟨hb, hf, fun o' ho' hf' => hall o' (by omega) ho' hf'⟩ J hcJ ⟨hF, ht⟩
      refine r_M_leaves_47 ⟨fun _ => ⟨fun q => ⟨_, rfl, ?_⟩, fun q => c_M_bitsOf (by omega) (by omega) ⟨_, rfl, ?_⟩⟩, fun q => absurd (by decide) q⟩
      · rw [if_neg q] at fb; exact fb
      · rw [if_pos (Classical.not_not.mp q)] at fb; exact fb
    | succ o ih =>
      intro b J hj hb hf hall hcJ hF ht
      have q1 := p10 o (by omega)
      have q2 := p10 b (by omega)
      refine r_M_leaves_47 ⟨fun q => absurd q (nlt0 (n := o) (by omega)), fun _ => c_M_bitsOf (n := o) (by omega) (by omega) (c_M_bitsOf (by omega) (by omega) ?_)⟩
      have ey : yy (o + 1) + (-1) = yy o := yy_d o
      rw [ey]
      refine ⟨fun q => ih b J (by omega) hb hf (fun o' ho' hlt hf' => ?_) hcJ hF ht, fun q => ?_⟩
      · have hlt2 := (nI_ltI (by omega) (by omega)).mp q
        by_cases y : o' = o
        · rw [y]; exact Or.inl hlt2
        · exact hall o' (by omega) hlt hf'
      · have hle : popc 10 o ≤ popc 10 b := by
          rcases Nat.lt_or_ge (popc 10 b) (popc 10 o) with z | z
          · exact absurd (nI_lt z (by omega)) q
          · exact z
        have hiff := kp_iff hR (m := m) (p := p') (o := o) hm b1
        refine c_M_laysHours (o := o) (by omega) hO hcJ em hm (by omega) (fun g hg I' _ hc' hF' ht' => ⟨fun q => absurd q (by decide), fun _ => ih o I' (by omega) (by omega) (hiff.mp ⟨g, hg⟩) (fun o' ho' hlt hf' => ?_) hc' (hF.tr hF') (ht'.trans ht)⟩) (fun hg I' hc' hF' ht' => ⟨fun _ => ih b I' (by omega) hb hf (fun o' ho' hlt hf' => ?_) hc' (hF.tr hF') (ht'.trans ht), fun q => absurd rfl q⟩)
        · by_cases y : o' = o
          · rw [y]; exact Or.inr ⟨rfl, Nat.le_refl _⟩
          · have := hall o' (by omega) hlt hf'; omega
        · by_cases y : o' = o
          · rw [y] at hf'
            obtain ⟨g, hg2⟩ := hiff.mpr hf'
            rw [hg] at hg2
            exact absurd hg2 (by simp)
          · exact hall o' (by omega) hlt hf'
  have e2 : ((1 : Int32) <<< (nI (rW R) &&& 31)) - (1 : Int32) = nI (2 ^ rW R - 1) := by
    rw [sh_1 hW, show (1 : Int32) = nI 1 from rfl, nI_sub (by omega)]
  rw [hc0.1.2.1, e2]
  have := key (2 ^ rW R) (2 ^ rW R - 1) (ui I 704 0 0 0) (Nat.le_refl _) (by omega) fs_full (fun o' h1 h2 => by omega) hc0 t0_F (by rw [ui_s])
  have ey : yy (2 ^ rW R) = nI (2 ^ rW R - 1) := by
    have : 2 ^ rW R = 2 ^ rW R - 1 + 1 := by omega
    conv => lhs; rw [this]
    rfl
  rw [ey] at this
  exact this
end HourM

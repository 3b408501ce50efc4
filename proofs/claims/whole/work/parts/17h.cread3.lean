/-! the program reads a law: all of it -/
section ReadC3
variable {B : Nat → Nat} {n rd : Nat}
theorem cO_S {I0 J : MI} {b e w p p0 W : Nat} {c : List Nat} {g : DN} (hS : cS B n rd I0 b e w p J) (h : e + p0 ≤ b + p) (hg : sgP (J 135 1) b e g W) : cOut B n I0 b p0 W (Sum.inr (p, c, g)) J := ⟨e, hS.1, hS.2.2.2.2.1, hS.2.2.1, h, hg, hS.2.2.2.2.2⟩
theorem emR {p b d o a : Nat} {I : MI} {L : ML} {K : Int32 → MI → ML → Prop} (hd : 1 ≤ d) (hP : PsC I B n p) (h7 : I 128 1 7 = nI b) (hb : b < 900) (h : ∀ J', PsC J' B n p → frP I J' → J' 128 1 7 = nI (b + 1) → (∀ q, q < b → J' 135 1 q = I 135 1 q) → J' 135 1 b = nI (16 * a + o) → K (nI b) J' L) : CI d m_Road_emit [vR 128 1, vI (nI o), vI (nI a)] I L K := by
  refine toCI (n := 0) hd (r_Road_emit_0 ?_)
  rw [h7, cl_n (by omega)]
  refine ⟨fun q => absurd q (nlt0 (by omega)), fun _ => ⟨fun q => absurd q (nle_c (m := 900) (by omega) (by omega)), fun _ => ⟨vin (by omega) (by omega), _, rfl, ?_⟩⟩⟩
  have e16 : nI a * (16 : Int32) + nI o = nI (16 * a + o) := by
    have em : nI a * (16 : Int32) = nI (a * 16) := (Int32.ofNat_mul a 16).symm
    rw [em, nI_add, Nat.mul_comm]
  rw [e16, ui_r (by decide), h7, nI_1]
  refine h _ (PsC_ui hP) frP_7 (by rw [ui_s]) (fun q hq => ?_) ?_
  · rw [ui_off (by omega), ui_k (by omega)]
  · rw [ui_off (by omega), ui_s]
theorem aimC {p b e w d o a : Nat} {I0 J : MI} {L : ML} {K : MI → ML → Prop} (hd : 1 ≤ d) (hS : cS B n rd I0 b e w p J) (h1 : b ≤ a) (h2 : a < e) (ho : o < 16) (hc : J 135 1 a = nI o) (h : ∀ J', cS B n rd I0 b e w p J' → (∀ q, q ≠ a → J' 135 1 q = J 135 1 q) → J' 135 1 a = nI (16 * e + o) → K J' L) : CV d m_Road_aimHere [vR 128 1, vI (nI a)] J L K := by
  obtain ⟨hP, h4, h7, hw, hF, hlo⟩ := hS
  have hp := hP.2.2.1
  have hn := hP.1.2.1
  refine toCV (n := 0) hd (r_Road_aimHere_0 ?_)
  rw [cl_n (by omega), h7, hc]
  have em : nI e * (16 : Int32) = nI (e * 16) := (Int32.ofNat_mul e 16).symm
  have e2 : nI o % (16 : Int32) = nI o := by
    have : ∀ x, x < 16 → nI x % (16 : Int32) = nI x := by decide
    exact this o ho
  have e16 : nI e * (16 : Int32) + nI o % (16 : Int32) = nI (16 * e + o) := by rw [e2, em, nI_add, Nat.mul_comm]
  rw [e16]
  refine ⟨fun q => absurd q (nlt0 (by omega)), fun _ => ⟨fun q => absurd q (nle_c (m := 900) (by omega) (by omega)), fun _ => ⟨vin (by omega) (by omega), vin (by omega) (by omega), rfl, h _ ⟨PsC_uc hP, by rw [ui_r (by decide)]; exact h4, by rw [ui_r (by decide)]; exact h7, hw, hF.tr frP_c, fun q hq => ?_⟩ (fun q hq => ?_) ?_⟩⟩⟩
  · rw [ui_k (by omega)]; exact hlo q hq
  · rw [ui_k hq]
  · rw [ui_s]
theorem chC {f p p0 b d deep : Nat} {I0 J : MI} {L : ML} {K : MI → ML → Prop} {r : PR} (hA : rcA B n rd f) (hdp : deep < 6) (hd : dpC 0 deep ≤ d + 2) (hS : cS B n rd I0 b b 1 p J) (hp0 : p0 ≤ p) (h : bnd (prs B n rd f 5 (deep + 1) p [] d0) (fun p1 c1 g1 => exq B n p1 11 (fun p2 => bnd (prs B n rd f 2 (deep + 1) p2 [] d0) (fun p3 c2 g2 => exq B n p3 12 (fun p4 => bnd (prs B n rd f 2 (deep + 1) p4 [] d0) (fun p5 c3 g3 => exq B n p5 13 (fun p6 => some (Sum.inr (p6, c1 ++ c2 ++ c3 ++ [3009], fun nm => if g1 nm = 0 then g3 nm else g2 nm)))))))) = some r) (hK : ∀ J', cOut B n I0 b p0 (wN 0 deep) r J' → K J' L) : CV (d + 1) m_Rd_choice [vR 192 0, vI (nI (deep + 1))] J L K := by
  have hd16 : 8 ≤ d := by rw [dc_0] at hd; omega
  have hd5 : dpC 5 (deep + 1) ≤ d := by rw [dc_5]; rw [dc_0] at hd; omega
  have hd2 : dpC 2 (deep + 1) ≤ d := by rw [dc_2]; rw [dc_0] at hd; omega
  have bad : ∀ J' x, FtC J' x.1 x.2 → frP I0 J' → r = Sum.inl x → K J' L := fun J' x hF hR er => hK J' (by rw [er]; exact ⟨hF, hR⟩)
  refine toCV (n := d) (Nat.le_refl _) (r_Rd_choice_0 ?_)
  refine subC (sub := 5) hA (by omega) (by omega) hS (Nat.le_refl _) hd5 h (fun J' x hF hR er => ?_) (fun J2 p1 u c1 g1 h2 lt1 le1 s1 lo2 k2 => ?_)
  · exact c_Rd_takeWordF (by omega) hF (c_Road_emitF (by omega) hF (fun _ J1 f1 r1 => c_sumF (by omega) f1 (c_Rd_takeWordF (by omega) f1 (c_Road_emitF (by omega) f1 (fun _ J2 f2 r2 => c_Road_aimF (by omega) f2 (fun J3 f3 r3 => c_sumF (by omega) f3 (c_Rd_takeWordF (by omega) f3 (c_Road_aimF (by omega) f3 (fun J4 f4 r4 => ⟨rfl, bad J4 x f4 ((((hR.tr r1).tr r2).tr r3).tr r4) er⟩)))))))))
  have b1 := s1.1
  refine twC (j := 11) (by omega) h2 (by omega) k2 (fun J3 h3 e3 k3 lt3 => ?_) (fun J' x hF hR er => ?_)
  · refine emC (o := 11) (a := 0) (by omega) h3 (by omega) (fun J4 h4 lo4 c4 => ?_)
    refine subC (sub := 2) hA (by omega) (by omega) h4 (by omega) hd2 k3 (fun J' x hF hR er => ?_) (fun J5 p3 v c2 g2 h5 lt5 le5 s5 lo5 k5 => ?_)
    · exact c_Rd_takeWordF (by omega) hF (c_Road_emitF (by omega) hF (fun _ J2 f2 r2 => c_Road_aimF (by omega) f2 (fun J3 f3 r3 => c_sumF (by omega) f3 (c_Rd_takeWordF (by omega) f3 (c_Road_aimF (by omega) f3 (fun J4 f4 r4 => ⟨rfl, bad J4 x f4 (((hR.tr r2).tr r3).tr r4) er⟩))))))
    have b5 := s5.1
    refine twC (j := 12) (by omega) h5 (by omega) k5 (fun J6 h6 e6 k6 lt6 => ?_) (fun J' x hF hR er => ?_)
    · refine emC (o := 12) (a := 0) (by omega) h6 (by omega) (fun J7 h7 lo7 c7 => ?_)
      refine aimC (o := 11) (by omega) h7 (a := u) (by omega) (by omega) (by omega) ?_ (fun J8 h8 lo8 c8 => ?_)
      · rw [lo7 u (by omega), e6, lo5 u (by omega), c4]
      refine subC (sub := 2) hA (by omega) (by omega) h8 (by omega) hd2 k6 (fun J' x hF hR er => ?_) (fun J9 p5 e c3 g3 h9 lt9 le9 s9 lo9 k9 => ?_)
      · exact c_Rd_takeWordF (by omega) hF (c_Road_aimF (by omega) hF (fun J4 f4 r4 => ⟨rfl, bad J4 x f4 (hR.tr r4) er⟩))
      have b9 := s9.1
      refine twC (j := 13) (by omega) h9 (by omega) k9 (fun J10 h10 e10 k10 lt10 => ?_) (fun J' x hF hR er => ?_)
      · refine aimC (o := 12) (by omega) h10 (a := v) (by omega) (by omega) (by omega) ?_ (fun J11 h11 lo11 c11 => ⟨rfl, hK J11 ?_⟩)
        · rw [e10, lo9 v (by omega), lo8 v (by omega), c7]
        injection k10 with k10
        rw [← k10]
        have hpe := h11.1.2.2.1
        have hne := h11.1.1.2.1
        have hee := h11.2.2.2.1
        refine cO_S h11 (by omega) (sg_if (u := u) (v := v) (W1 := wN 5 (deep + 1)) (W2 := wN 2 (deep + 1)) (W3 := wN 2 (deep + 1)) (sg_mono s1 (fun q _ hq => ?_) (Nat.le_refl _)) (sg_mono s5 (fun q hq1 hq => ?_) (Nat.le_refl _)) (sg_mono s9 (fun q hq1 hq => ?_) (Nat.le_refl _)) ?_ c11 (by omega) (by rw [wn_5, wn_0]; omega) (by rw [wn_2, wn_0]; omega) (by rw [wn_2, wn_0]; omega) (by rw [wn_0]; omega))
        · rw [lo11 q (by omega), e10, lo9 q (by omega), lo8 q (by omega), lo7 q (by omega), e6, lo5 q (by omega), lo4 q (by omega), e3]
        · rw [lo11 q (by omega), e10, lo9 q (by omega), lo8 q (by omega), lo7 q (by omega), e6]
        · rw [lo11 q (by omega), e10]
        · rw [lo11 u (by omega), e10, lo9 u (by omega), c8]
      · exact c_Road_aimF (by omega) hF (fun J4 f4 r4 => ⟨rfl, bad J4 x f4 (hR.tr r4) er⟩)
    · exact c_Road_emitF (by omega) hF (fun _ J2 f2 r2 => c_Road_aimF (by omega) f2 (fun J3 f3 r3 => c_sumF (by omega) f3 (c_Rd_takeWordF (by omega) f3 (c_Road_aimF (by omega) f3 (fun J4 f4 r4 => ⟨rfl, bad J4 x f4 (((hR.tr r2).tr r3).tr r4) er⟩)))))
  · exact c_Road_emitF (by omega) hF (fun _ J1 f1 r1 => c_sumF (by omega) f1 (c_Rd_takeWordF (by omega) f1 (c_Road_emitF (by omega) f1 (fun _ J2 f2 r2 => c_Road_aimF (by omega) f2 (fun J3 f3 r3 => c_sumF (by omega) f3 (c_Rd_takeWordF (by omega) f3 (c_Road_aimF (by omega) f3 (fun J4 f4 r4 => ⟨rfl, bad J4 x f4 ((((hR.tr r1).tr r2).tr r3).tr r4) er⟩))))))))
theorem rcA_0 {f : Nat} (hr : rd ≤ 1) (hA : rcA B n rd f) {deep p b : Nat} {r : PR} {d : Nat} {I : MI} {L : ML} {K : MI → ML → Prop} (hdp : deep ≤ 6) (h : bAt B n rd (prs B n rd f) deep p = some r) (hP : PsC I B n p) (h4 : I 192 0 4 = nI rd) (h7 : I 128 1 7 = nI b) (hb : b ≤ p) (hd : dpC 0 deep ≤ d) (hK : ∀ I', cOut B n I b p (wN 0 deep) r I' → K I' L) : CV d m_Rd_atom [vR 192 0, vI (nI deep)] I L K := by
  obtain ⟨d, rfl⟩ : ∃ z, d = z + 2 := ⟨d - 2, by rw [dc_0] at hd; omega⟩
  have hd16 : 8 ≤ d := by rw [dc_0] at hd; omega
  have hS := cS_0 hP h4 h7 hb
  have eD : nI deep + 1 = nI (deep + 1) := nI_1 deep
  have hp := hP.2.2.1
  have hn := hP.1.2.1
  have hl := tk_lt (B := B) hP.2.2.1
  have hf := tk_f (B := B) hP.2.2.1
  have hf1 := hf.1
  have hp2 := hf.2.2.1
  have bad : ∀ J' x, FtC J' x.1 x.2 → frP I J' → r = Sum.inl x → K J' L := fun J' x hF hL er => hK J' (by rw [er]; exact ⟨hF, hL⟩)
  have hd2 : deep < 6 → dpC 2 (deep + 1) ≤ d + 1 := fun z => by rw [dc_2]; rw [dc_0] at hd; omega
  refine toCV (n := d + 1) (Nat.le_refl _) (r_Rd_atom_0 ?_)
  rw [eD]
  unfold bAt at h
  refine c_Rd_isSound (by omega) (fun _ => ⟨fun _ => ?_, fun z => absurd (by decide) z⟩) (fun z => absurd hP.2.2.2.1 z)
  refine c_Tok_isNumber (by omega) hP.2.1 hp (fun e => ⟨fun z => absurd z (by decide), fun _ => ?_⟩) (fun e => ⟨fun _ => ?_, fun z => absurd rfl z⟩)
  · rw [if_pos e] at h
    injection h with h
    have hv := hf.2.2.2.2.2.2.2.1 e
    have hlt := hf.2.2.2.2.2.1 (by omega)
    refine toCI (n := 0) (by omega) (r_Tok_numberValue_0 ⟨_, rfl, ?_⟩)
    rw [hP.2.1.2.2.2.1 e]
    refine emR (o := 0) (by omega) hP h7 (by omega) (fun J1 hP1 hR1 e7 lo1 c1 => c_Tok_step (by omega) hP1 (by omega) (fun J2 hP2 hF2 => ⟨rfl, hK J2 ?_⟩))
    have e5 : J2 135 1 = J1 135 1 := hF2.1 135 1 (by omega)
    rw [← h]
    refine ⟨b + 1, hP2, hR1.tr (frR_P (frT_R hF2)), by rw [hF2.1 128 1 (by omega)]; exact e7, by show b + 1 + p ≤ b + (tkn B n p).2.2.1; omega, ?_, fun q hq => by rw [e5]; exact lo1 q hq⟩
    rw [e5]
    exact sg_mono (sg_num c1 (by omega)) (fun _ _ _ => rfl) (by rw [wn_0]; omega)
  rw [if_neg e] at h
  refine c_Tok_isSign (j := 5) (by omega) hP.2.1 hp (by omega) rfl (fun e2 => ⟨fun z => absurd z (by decide), fun _ => ?_⟩) (fun e2 => ⟨fun _ => ?_, fun z => absurd rfl z⟩)
  · rw [nmW_n (by omega)] at h
    have h : (if (tkn B n p).1 = 35 then _ else _) = some r := h
    rw [if_pos (by omega)] at h
    refine opC (by omega) hS hdp (by omega) (by omega) h (fun J1 lt h1 e1 k1 lt1 => ?_) (fun J' x hF hL er => ⟨rfl, bad J' x hF hL er⟩)
    refine subC (sub := 2) hA (by omega) (by omega) h1 (Nat.le_refl _) (hd2 lt) k1 (fun J' x hF hR er => ?_) (fun J2 p1 e2 c1 g1 h2 _ le2 s2 _ k2 => ?_)
    · exact c_Rd_takeSignF (by omega) hF ⟨rfl, bad J' x hF hR er⟩
    refine tsC2 (j := 6) (by omega) h2 (by omega) rfl k2 (fun J3 h3 e3 k3 lt3 => ⟨rfl, hK J3 ?_⟩) (fun J' x hF hL er => ⟨rfl, bad J' x hF hL er⟩)
    injection k3 with k3
    rw [← k3]
    exact cO_S h3 (by omega) (by rw [e3]; exact sg_mono s2 (fun _ _ _ => rfl) (by rw [wn_2, wn_0]; omega))
  refine c_Tok_isWord (j := 10) (by omega) hP.1 hP.2.1 hp (by omega) (fun e3 => ⟨fun z => absurd z (by decide), fun _ => ?_⟩) (fun e3 => ⟨fun _ => ?_, fun z => absurd rfl z⟩)
  · rw [nmW_n (by omega)] at h
    have h : (if (tkn B n p).1 = 35 then _ else _) = some r := h
    rw [if_neg (by omega), if_pos e3] at h
    refine opC (by omega) hS hdp (by omega) (by omega) h (fun J1 lt h1 e1 k1 lt1 => ?_) (fun J' x hF hL er => ⟨rfl, bad J' x hF hL er⟩)
    exact chC hA lt hd h1 (by omega) k1 (fun J' hO => ⟨rfl, hK J' hO⟩)
  refine c_Rd_nameSlot (by omega) hP h4 hr (fun q hq => ?_) (fun hq => ?_)
  · obtain ⟨q4, k20⟩ := nmW_2 hq
    rw [hq] at h
    injection h with h
    have hlt := hf.2.2.2.2.2.1 (by omega)
    refine toCV (n := d) (by omega) (r_Rd_takeName_0 ⟨fun _ => emR (o := 1) (by omega) hP h7 (by omega) (fun J1 hP1 hR1 e7 lo1 c1 => c_Tok_step (by omega) hP1 (by omega) (fun J2 hP2 hF2 => ⟨rfl, rfl, hK J2 ?_⟩)), fun z => absurd (Classical.not_not.mp z) (nI_m1 (by omega))⟩)
    have e5 : J2 135 1 = J1 135 1 := hF2.1 135 1 (by omega)
    rw [← h]
    refine ⟨b + 1, hP2, hR1.tr (frR_P (frT_R hF2)), by rw [hF2.1 128 1 (by omega)]; exact e7, by show b + 1 + p ≤ b + (tkn B n p).2.2.1; omega, ?_, fun q hq => by rw [e5]; exact lo1 q hq⟩
    rw [e5]
    exact sg_mono (sg_nam c1 (by omega)) (fun _ _ _ => rfl) (by rw [wn_0]; omega)
  · rw [hq] at h
    have h : (if (tkn B n p).1 = 35 then _ else _) = some r := h
    rw [if_neg (by omega), if_neg e3] at h
    unfold flt at h
    injection h with h
    exact toCV (n := d) (by omega) (r_Rd_takeName_0 ⟨fun z => absurd rfl z, fun _ => c_Rd_refuse (w := 2) (by omega) hP (by omega) (by omega) (fun I' hF' hR => ⟨rfl, rfl, bad I' _ hF' (frR_P hR) h.symm⟩)⟩)
theorem cmC {f p p0 b e d deep cd o : Nat} {ac : List Nat} {g : DN} {I0 J : MI} {L : ML} {Z K : MI → ML → Prop} {r : PR} (hA : rcA B n rd f) (hdp : deep ≤ 6) (hd : dpC 2 deep ≤ d) (hS : cS B n rd I0 b e 0 p J) (hp0 : e + p0 ≤ b + p) (hg : sgP (J 135 1) b e g (wN 2 deep)) (h24 : (tkn B n p).1 ≠ 24) (h25 : (tkn B n p).1 ≠ 25) (ho1 : 2 ≤ o) (ho2 : o ≤ 9) (h : cmq (prs B n rd f) cd o deep (tkn B n p).2.2.1 ac g = some r) (hK : ∀ J', cOut B n I0 b p0 (wN 3 deep) r J' → K J' L) : CI d m_Rd_isSound [vR 192 0] J L (fun x I' L' => (x = 0 → Z I' L') ∧ (¬ (x = 0) → CV d m_Tok_step [vR 64 0] I' L' (fun I1 L1 => CV d m_Rd_sum [vR 192 0, vI (nI deep)] I1 L1 (fun I2 L2 => CI d m_Road_emit [vR 128 1, vI (nI o), vI (nI 0)] I2 L2 (fun _ I3 L3 => K I3 L3))))) := by
  have hd16 : 12 ≤ d := by rw [dc_2] at hd; omega
  have l0 := hg.1
  have hf := tk_f (B := B) hS.1.2.2.1
  have hlt := hf.2.2.2.2.2.1 h24
  have hf1 := hf.1
  refine c_Rd_isSound (by omega) (fun _ => ⟨fun z => absurd z (by decide), fun _ => ?_⟩) (fun z => absurd hS.1.2.2.2.1 z)
  refine stC (by omega) hS h24 h25 (fun J1 h1 e1 => subC (sub := 2) hA (by omega) hdp h1 (by omega) hd h (fun J' x hF hR er => c_Road_emitF (by omega) hF (fun _ J2 f2 r2 => hK J2 (by rw [er]; exact ⟨f2, hR.tr r2⟩))) (fun J2 p2 e2 c g2 h2 lt2 le2 s2 lo2 hk => emC (o := o) (a := 0) (by omega) h2 (by have := s2.1; omega) (fun J3 h3 lo3 c3 => hK J3 ?_)))
  injection hk with hk
  rw [← hk]
  have := s2.1
  refine cO_S h3 (by omega) (sg_op (m := e) (W1 := wN 2 deep) (W2 := wN 2 deep) (sg_mono hg (fun q _ hq => ?_) (Nat.le_refl _)) (sg_mono s2 (fun q _ hq => lo3 q hq) (Nat.le_refl _)) ho1 ho2 ?_ (by rw [wn_2, wn_3]; omega) (by rw [wn_2, wn_3]; omega))
  · rw [lo3 q (by omega), lo2 q hq, e1]
  · rw [c3, Nat.mul_zero, Nat.zero_add]
theorem rcA_3 {f : Nat} (hA : rcA B n rd f) {deep p b : Nat} {r : PR} {d : Nat} {I : MI} {L : ML} {K : MI → ML → Prop} (hdp : deep ≤ 6) (h : bUn B n (prs B n rd f) deep p = some r) (hP : PsC I B n p) (h4 : I 192 0 4 = nI rd) (h7 : I 128 1 7 = nI b) (hb : b ≤ p) (hd : dpC 3 deep ≤ d) (hK : ∀ I', cOut B n I b p (wN 3 deep) r I' → K I' L) : CV d m_Rd_unit [vR 192 0, vI (nI deep)] I L K := by
  obtain ⟨d, rfl⟩ : ∃ z, d = z + 2 := ⟨d - 2, by rw [dc_3] at hd; omega⟩
  have hd16 : 12 ≤ d := by rw [dc_3] at hd; omega
  have hS := cS_0 hP h4 h7 hb
  have hp := hP.2.2.1
  have eD : nI deep + 1 = nI (deep + 1) := nI_1 deep
  have bad : ∀ J' x, FtC J' x.1 x.2 → frP I J' → r = Sum.inl x → K J' L := fun J' x hF hL er => hK J' (by rw [er]; exact ⟨hF, hL⟩)
  have hd2 : dpC 2 deep ≤ d := by rw [dc_2]; rw [dc_3] at hd; omega
  have hd3 : deep < 6 → dpC 3 (deep + 1) ≤ d + 1 := fun z => by rw [dc_3]; rw [dc_3] at hd; omega
  have hd5 : deep < 6 → dpC 5 (deep + 1) ≤ d + 1 := fun z => by rw [dc_5]; rw [dc_3] at hd; omega
  refine toCV (n := d + 1) (Nat.le_refl _) (r_Rd_unit_0 ?_)
  rw [eD]
  unfold bUn at h
  refine c_Rd_isSound (by omega) (fun _ => ⟨fun _ => ?_, fun z => absurd (by decide) z⟩) (fun z => absurd hP.2.2.2.1 z)
  refine c_Tok_isWord (j := 20) (by omega) hP.1 hP.2.1 hp (by omega) (fun e => ⟨fun z => absurd z (by decide), fun _ => ?_⟩) (fun e => ⟨fun _ => ?_, fun z => absurd rfl z⟩)
  · rw [if_pos e] at h
    refine opC (by omega) hS hdp (by omega) (by omega) h (fun J1 lt h1 e1 k1 lt1 => ?_) (fun J' x hF hL er => ⟨rfl, bad J' x hF hL er⟩)
    refine subC (sub := 3) hA (by omega) (by omega) h1 (Nat.le_refl _) (hd3 lt) k1 (fun J' x hF hR er => c_Road_emitF (by omega) hF (fun _ J2 f2 r2 => ⟨rfl, bad J2 x f2 (hR.tr r2) er⟩)) (fun J2 p1 e2 c1 g1 h2 _ le2 s2 _ k2 => ?_)
    refine emC (o := 10) (a := 0) (by omega) h2 (by have := s2.1; omega) (fun J3 h3 lo3 c3 => ⟨rfl, hK J3 ?_⟩)
    injection k2 with k2
    rw [← k2]
    exact cO_S h3 (by omega) (sg_not (sg_mono s2 (fun q _ hq => lo3 q hq) (Nat.le_refl _)) c3 (by rw [wn_3, wn_3]; omega) (by rw [wn_3]; omega))
  rw [if_neg e] at h
  refine c_Tok_isSign (j := 7) (by omega) hP.2.1 hp (by omega) rfl (fun e2 => ⟨fun z => absurd z (by decide), fun _ => ?_⟩) (fun e2 => ⟨fun _ => ?_, fun z => absurd rfl z⟩)
  · rw [if_pos (by omega)] at h
    refine opC (by omega) hS hdp (by omega) (by omega) h (fun J1 lt h1 e1 k1 lt1 => ?_) (fun J' x hF hL er => ⟨rfl, bad J' x hF hL er⟩)
    refine subC (sub := 5) hA (by omega) (by omega) h1 (Nat.le_refl _) (hd5 lt) k1 (fun J' x hF hR er => ?_) (fun J2 p1 e2 c1 g1 h2 _ le2 s2 _ k2 => ?_)
    · exact c_Rd_takeSignF (by omega) hF ⟨rfl, bad J' x hF hR er⟩
    refine tsC2 (j := 8) (by omega) h2 (by omega) rfl k2 (fun J3 h3 e3 k3 lt3 => ⟨rfl, hK J3 ?_⟩) (fun J' x hF hL er => ⟨rfl, bad J' x hF hL er⟩)
    injection k3 with k3
    rw [← k3]
    exact cO_S h3 (by omega) (by rw [e3]; exact sg_mono s2 (fun _ _ _ => rfl) (by rw [wn_5, wn_3]; omega))
  rw [if_neg (by omega)] at h
  refine toCV (n := d) (by omega) (r_Rd_comparison_0 ?_)
  refine subC (sub := 2) hA (by omega) hdp hS (Nat.le_refl _) hd2 h (fun J' x hF hR er => ?_) (fun J2 p1 e1 c g h2 lt2 le2 s2 _ k2 => ?_)
  · have bd : (none : Option MV) = none ∧ ((none : Option MV) = none ∧ K J' L) := ⟨rfl, rfl, bad J' x hF hR er⟩
    exact c_Tok_isSignA (by omega) (fun _ => ⟨fun _ => c_Tok_isSignA (by omega) (fun _ => ⟨fun _ => c_Tok_isSignA (by omega) (fun _ => ⟨fun _ => snd_F (by omega) hF bd, fun _ => c_Rd_refuseF (by omega) hF (snd_F (by omega) hF bd)⟩), fun _ => snd_F (by omega) hF bd⟩), fun _ => snd_F (by omega) hF bd⟩)
  have hPJ := h2.1
  have hpJ := hPJ.2.2.1
  have hK' : ∀ J', cOut B n I b p (wN 3 deep) r J' → (none : Option MV) = none ∧ ((none : Option MV) = none ∧ K J' L) := fun J' hO => ⟨rfl, rfl, hK J' hO⟩
  refine c_Tok_isSign (j := 10) (by omega) hPJ.2.1 hpJ (by omega) rfl (fun e3 => ⟨fun z => absurd z (by decide), fun _ => ?_⟩) (fun e3 => ⟨fun _ => ?_, fun z => absurd rfl z⟩)
  · rw [if_neg (by omega), if_pos (by omega)] at k2
    exact cmC (o := 6) hA hdp hd2 h2 le2 s2 (by omega) (by omega) (by omega) (by omega) k2 hK'
  refine c_Tok_isSign (j := 11) (by omega) hPJ.2.1 hpJ (by omega) rfl (fun e4 => ⟨fun z => absurd z (by decide), fun _ => ?_⟩) (fun e4 => ⟨fun _ => ?_, fun z => absurd rfl z⟩)
  · rw [if_neg (by omega), if_neg (by omega), if_pos (by omega)] at k2
    exact cmC (o := 7) hA hdp hd2 h2 le2 s2 (by omega) (by omega) (by omega) (by omega) k2 hK'
  refine c_Tok_isSign (j := 9) (by omega) hPJ.2.1 hpJ (by omega) rfl (fun e5 => ⟨fun _ => ?_, fun z => absurd (by decide) z⟩) (fun e5 => ⟨fun z => absurd rfl z, fun _ => ?_⟩)
  · rw [if_pos (by omega)] at k2
    exact cmC (o := 5) hA hdp hd2 h2 le2 s2 (by omega) (by omega) (by omega) (by omega) k2 hK'
  · rw [if_neg (by omega), if_neg (by omega), if_neg (by omega)] at k2
    unfold flt at k2
    injection k2 with k2
    exact c_Rd_refuse (w := 2) (by omega) hPJ (by omega) (by omega) (fun I' hF' hR => snd_F (by omega) hF' ⟨rfl, rfl, bad I' _ hF' (h2.2.2.2.2.1.tr (frR_P hR)) k2.symm⟩)
theorem rcAll (hr : rd ≤ 1) : ∀ f, rcA B n rd f ∧ rcL B n rd f 6 1 m_Rd_term (fun deep i => [vR 192 0, vI (nI deep), vI (nI i)]) ∧ rcL B n rd f 7 2 m_Rd_sum (fun deep i => [vR 192 0, vI (nI deep), vI (nI i), vD]) ∧ rcL B n rd f 8 4 m_Rd_both (fun deep i => [vR 192 0, vI (nI deep), vI (nI i)]) ∧ rcL B n rd f 9 5 m_Rd_truth (fun deep i => [vR 192 0, vI (nI deep), vI (nI i)]) := by
  intro f
  induction f with
  | zero =>
    refine ⟨fun nt deep p b r d I L K _ _ h => ?_, fun deep p p0 b e i ac ag r d I0 J L Q _ h => ?_, fun deep p p0 b e i ac ag r d I0 J L Q _ h => ?_, fun deep p p0 b e i ac ag r d I0 J L Q _ h => ?_, fun deep p p0 b e i ac ag r d I0 J L Q _ h => ?_⟩ <;> exact absurd h (by simp [prs])
  | succ f ih =>
    obtain ⟨hA, h6, h7, h8, h9⟩ := ih
    refine ⟨?_, ?_, ?_, ?_, ?_⟩
    · intro nt deep p b r d I L K hnt hdp h hP h4 hc7 hb hd hK
      have h : bdy B n rd (prs B n rd f) nt deep p [] d0 = some r := h
      match nt, hnt, h, hd, hK with
      | 0, _, h, hd, hK => exact rcA_0 hr hA hdp h hP h4 hc7 hb hd hK
      | 1, _, h, hd, hK =>
        obtain ⟨d, rfl⟩ : ∃ z, d = z + 1 := ⟨d - 1, by rw [dc_1] at hd; omega⟩
        have hd9 : 9 ≤ d := by rw [dc_1] at hd; omega
        exact toCV (n := d) (Nat.le_refl _) (r_Rd_term_0 (seqC (sub := 0) (self := 6) (nt := 1) (ls := fun deep i => [vR 192 0, vI (nI deep), vI (nI i)]) hA h6 (by omega) hdp h hP h4 hc7 hb (by rw [dc_0]; rw [dc_1] at hd; omega) hd (by rw [wn_0, wn_1]; omega) (fun I' k pl hF hq => r_Rd_term_7 ⟨fun _ => hq, fun _ => snd_F (by omega) hF hq⟩) (fun I' hO => ⟨rfl, hK I' hO⟩)))
      | 2, _, h, hd, hK =>
        obtain ⟨d, rfl⟩ : ∃ z, d = z + 1 := ⟨d - 1, by rw [dc_2] at hd; omega⟩
        have hd9 : 9 ≤ d := by rw [dc_2] at hd; omega
        exact toCV (n := d) (Nat.le_refl _) (r_Rd_sum_0 (seqC (sub := 1) (self := 7) (nt := 2) (ls := fun deep i => [vR 192 0, vI (nI deep), vI (nI i), vD]) hA h7 (by omega) hdp h hP h4 hc7 hb (by rw [dc_1]; rw [dc_2] at hd; omega) hd (by rw [wn_1, wn_2]; omega) (fun I' k pl hF hq => r_Rd_sum_7 ⟨fun _ => hq, fun _ => snd_F (by omega) hF hq⟩) (fun I' hO => ⟨rfl, hK I' hO⟩)))
      | 3, _, h, hd, hK => exact rcA_3 hA hdp h hP h4 hc7 hb hd hK
      | 4, _, h, hd, hK =>
        obtain ⟨d, rfl⟩ : ∃ z, d = z + 1 := ⟨d - 1, by rw [dc_4] at hd; omega⟩
        have hd9 : 9 ≤ d := by rw [dc_4] at hd; omega
        exact toCV (n := d) (Nat.le_refl _) (r_Rd_both_0 (seqC (sub := 3) (self := 8) (nt := 4) (ls := fun deep i => [vR 192 0, vI (nI deep), vI (nI i)]) hA h8 (by omega) hdp h hP h4 hc7 hb (by rw [dc_3]; rw [dc_4] at hd; omega) hd (by rw [wn_3, wn_4]; omega) (fun I' k pl hF hq => r_Rd_both_7 ⟨fun _ => hq, fun _ => snd_F (by omega) hF hq⟩) (fun I' hO => ⟨rfl, hK I' hO⟩)))
      | 5, _, h, hd, hK =>
        obtain ⟨d, rfl⟩ : ∃ z, d = z + 1 := ⟨d - 1, by rw [dc_5] at hd; omega⟩
        have hd9 : 9 ≤ d := by rw [dc_5] at hd; omega
        exact toCV (n := d) (Nat.le_refl _) (r_Rd_truth_0 (seqC (sub := 4) (self := 9) (nt := 5) (ls := fun deep i => [vR 192 0, vI (nI deep), vI (nI i)]) hA h9 (by omega) hdp h hP h4 hc7 hb (by rw [dc_4]; rw [dc_5] at hd; omega) hd (by rw [wn_4, wn_5]; omega) (fun I' k pl hF hq => r_Rd_truth_7 ⟨fun _ => hq, fun _ => snd_F (by omega) hF hq⟩) (fun I' hO => ⟨rfl, hK I' hO⟩)))
      | k + 6, hnt, _, _, _ => omega
    · exact rcL_of (sub := 0) (tk := 34) (cd := 3002) (o := 4) (tm := m_Tok_isSign) (ta := [vR 64 0, vI 42]) hA h6 (by omega) (by omega) (by omega) (by omega) (by omega) (fun deep => by rw [wn_0, wn_1]; omega) (fun deep => by rw [dc_0, dc_1]; omega) (fun _ _ _ _ => rfl) (fun d J L p K hd hP k1 k0 => c_Tok_isSign (j := 4) (by omega) hP.2.1 hP.2.2.1 (by omega) rfl k1 k0) (fun d deep i Q J L h => r_Rd_term_7 (by rw [nI_1]; exact h))
    · exact sumC_of hA h7
    · exact rcL_of (sub := 3) (tk := 18) (cd := 3007) (o := 8) (tm := m_Tok_isWord) (ta := [vR 64 0, vR 4000 12]) hA h8 (by omega) (by omega) (by omega) (by omega) (by omega) (fun deep => by rw [wn_3, wn_4]; omega) (fun deep => by rw [dc_3, dc_4]; omega) (fun _ _ _ _ => rfl) (fun d J L p K hd hP k1 k0 => c_Tok_isWord (j := 18) hd hP.1 hP.2.1 hP.2.2.1 (by omega) k1 k0) (fun d deep i Q J L h => r_Rd_both_7 (by rw [nI_1]; exact h))
    · exact rcL_of (sub := 4) (tk := 19) (cd := 3008) (o := 9) (tm := m_Tok_isWord) (ta := [vR 64 0, vR 4000 13]) hA h9 (by omega) (by omega) (by omega) (by omega) (by omega) (fun deep => by rw [wn_4, wn_5]; omega) (fun deep => by rw [dc_4, dc_5]; omega) (fun _ _ _ _ => rfl) (fun d J L p K hd hP k1 k0 => c_Tok_isWord (j := 19) hd hP.1 hP.2.1 hP.2.2.1 (by omega) k1 k0) (fun d deep i Q J L h => r_Rd_truth_7 (by rw [nI_1]; exact h))
end ReadC3

/-! the reference reads a law: all of it -/
section ReadM3
variable {B : Nat → Nat} {n rd : Nat}
def mS (B : Nat → Nat) (n rd : Nat) (I0 : MI) (m : Nat) (ac : List Nat) (w p : Nat) (J : MI) : Prop := PsM J B n p ∧ J 704 0 15 = nI rd ∧ cdA I0 J m ac ∧ frL I0 J ∧ m + ac.length + w ≤ p
theorem mS_N {I0 J J' : MI} {m w p p2 : Nat} {ac : List Nat} (h : mS B n rd I0 m ac w p J) (hP : PsM J' B n p2) (hF : frN J J') (hp : p < p2) : mS B n rd I0 m ac (w + 1) p2 J' := ⟨hP, by rw [hF.2 15 (by omega)]; exact h.2.1, cdA_fr h.2.2.1 hF, h.2.2.2.1.tr (frN_L hF), by have := h.2.2.2.2; omega⟩
theorem mS_W {I0 J : MI} {m w v p : Nat} {ac : List Nat} (h : mS B n rd I0 m ac w p J) (hv : v ≤ w) : mS B n rd I0 m ac v p J := ⟨h.1, h.2.1, h.2.2.1, h.2.2.2.1, by have := h.2.2.2.2; omega⟩
theorem mS_O {I0 J : MI} {m w p : Nat} {ac : List Nat} {g : DN} (h : mS B n rd I0 m ac w p J) : mOut B n I0 m (Sum.inr (p, ac, g)) J := ⟨h.1, h.2.2.1, h.2.2.2.1⟩
theorem mS_0 {I : MI} {m p : Nat} (hP : PsM I B n p) (h15 : I 704 0 15 = nI rd) (h283 : I 709 0 283 = nI m) (hm : m ≤ p) : mS B n rd I m [] 0 p I := ⟨hP, h15, cdA_0 h283, frL.rf, by show m + 0 + 0 ≤ p; omega⟩
/-- a part is read -/
theorem sub_on {f sub deep p m w d : Nat} {ac : List Nat} {I0 J : MI} {L : ML} {r : PR} {k : Nat → List Nat → DN → Option PR} {K : MI → ML → Prop} (hA : rdA B n rd f) (hs : sub ≤ 5) (hdp : deep ≤ 6) (hS : mS B n rd I0 m ac w p J) (hd : dpM sub deep ≤ d) (h : bnd (prs B n rd f sub deep p [] d0) k = some r)
    (h0 : ∀ J' x, FtM J' x.1 x.2 → frL I0 J' → r = Sum.inl x → K J' L)
    (h1 : ∀ J' p2 c g, mS B n rd I0 m (ac ++ c) w p2 J' → p < p2 → k p2 c g = some r → K J' L) : CV d (mRd sub) [vR 704 0, vI (nI deep)] J L K := by
  obtain ⟨hP, h15, hc, hF, hm⟩ := hS
  rcases bnd_cs h with ⟨x, e, er⟩ | ⟨p2, c, g, e, hk⟩
  · exact hA sub deep p (m + ac.length) _ d J L _ hs hdp e hP h15 hc.1 (by omega) hd (fun I' hO => h0 I' x hO.1 (hF.tr hO.2) er)
  · obtain ⟨a1, a2, a3, a4, a5, a6⟩ := prs_ok (B := B) (n := n) (rd := rd) f sub deep p [] d0 _ (by omega) hP.2.2.1 (fun _ => rfl) (fun z => by omega) e
    have a1 : p ≤ p2 := a1
    have a3 : p < p2 := a3 hs
    have a5 : c.length ≤ 0 + (p2 - p) := a5
    refine hA sub deep p (m + ac.length) _ d J L _ hs hdp e hP h15 hc.1 (by omega) hd (fun I' hO => ?_)
    obtain ⟨hP2, hc2, hF2⟩ := hO
    exact h1 I' p2 c g ⟨hP2, by rw [hF2.2.1 15 (by omega)]; exact h15, cdA_app hc hc2, hF.tr hF2, by rw [List.length_append]; omega⟩ a3 hk
theorem cod_on {p m w d k : Nat} {ac : List Nat} {I0 J : MI} {L : ML} {K : MI → ML → Prop} (hd : 1 ≤ d) (hS : mS B n rd I0 m ac (w + 1) p J) (h : ∀ J', mS B n rd I0 m (ac ++ [k]) w p J' → K J' L) : CV d m_M_codes [vR 704 0, vI (nI k)] J L K := by
  obtain ⟨hP, h15, hc, hF, hm⟩ := hS
  have hp := hP.2.2.1
  have hn := hP.1.2.1
  refine c_M_codes hd hP hc hF (by omega) (fun I' hP' hc' hF' => h I' ⟨hP', ?_, hc', hF', by rw [List.length_append]; show m + (ac.length + 1) + w ≤ p; omega⟩)
  rw [hF'.2.1 15 (by omega), ← hF.2.1 15 (by omega)]; exact h15
theorem nxt_on {p m w d : Nat} {ac : List Nat} {I0 J : MI} {L : ML} {K : MI → ML → Prop} (hd : 6 ≤ d) (hS : mS B n rd I0 m ac w p J) (h24 : (tkn B n p).1 ≠ 24) (h : ∀ J', mS B n rd I0 m ac (w + 1) (tkn B n p).2.2.1 J' → K J' L) : CV d m_M_next [vR 704 0] J L K := by
  have hf := tk_f (B := B) hS.1.2.2.1
  have hlt := hf.2.2.2.2.2.1 h24
  have hf1 := hf.1
  exact c_M_next hd hS.1 (fun I' hP' hF' => h I' (mS_N hS hP' (frW_N hF') (by omega)))
theorem eat_on {p m w d j : Nat} {ac : List Nat} {I0 J : MI} {L : ML} {A Z : MI → ML → Prop} {R : Nat → Option PR} {r : PR} (hd : 7 ≤ d) (hS : mS B n rd I0 m ac w p J) (hj : j ≤ 100) (h24 : j ≠ 24) (h : exq B n p j R = some r) (h1 : ∀ J', mS B n rd I0 m ac (w + 1) (tkn B n p).2.2.1 J' → R (tkn B n p).2.2.1 = some r → A J' L) (h0 : ∀ J' x, FtM J' x.1 x.2 → frL I0 J' → r = Sum.inl x → Z J' L) : CI d m_M_eats [vR 704 0, vI (nI j)] J L (fun x I' L' => (¬ x = 0 → A I' L') ∧ (¬ (¬ x = 0) → CV d m_M_fails [vR 704 0, vI 2] I' L' Z)) := by
  have hf := tk_f (B := B) hS.1.2.2.1
  have hf1 := hf.1
  refine c_M_eats hd hS.1 hj (fun e I' hP' hF' => ⟨fun _ => ?_, fun q => absurd (by decide) q⟩) (fun e => ⟨fun q => absurd rfl q, fun _ => c_M_fails (w := 2) (by omega) hS.1 (by omega) (by omega) (fun I' hF' hN => ?_)⟩)
  · rcases exq_cs h with ⟨_, hk⟩ | ⟨hx, _⟩
    · have hlt := hf.2.2.2.2.2.1 (by omega)
      exact h1 I' (mS_N hS hP' (frW_N hF') (by omega)) hk
    · exact absurd e hx
  · rcases exq_cs h with ⟨hx, _⟩ | ⟨_, hr⟩
    · exact absurd hx e
    · exact h0 I' _ hF' (hS.2.2.2.1.tr (frN_L hN)) hr
theorem eat_F {d k pl : Nat} {J : MI} {L : ML} {j : Int32} {A Z : MI → ML → Prop} (hd : 2 ≤ d) (hF : FtM J k pl) (h0 : Z J L) : CI d m_M_eats [vR 704 0, vI j] J L (fun x I' L' => (¬ x = 0 → A I' L') ∧ (¬ (¬ x = 0) → CV d m_M_fails [vR 704 0, vI 2] I' L' Z)) := c_M_eatsF hd hF ⟨fun q => absurd rfl q, fun _ => c_M_failsF (by omega) hF h0⟩
theorem in_on {p m w d deep : Nat} {ac : List Nat} {I0 J : MI} {L : ML} {A Z : MI → ML → Prop} {R : Nat → Option PR} {r : PR} (hd : 7 ≤ d) (hS : mS B n rd I0 m ac w p J) (hdp : deep ≤ 6) (h24 : (tkn B n p).1 ≠ 24) (h : opn B n deep p R = some r) (h1 : ∀ J', deep < 6 → mS B n rd I0 m ac (w + 1) (tkn B n p).2.2.1 J' → R (tkn B n p).2.2.1 = some r → A J' L) (h0 : ∀ J' x, FtM J' x.1 x.2 → frL I0 J' → r = Sum.inl x → Z J' L) : CI d m_M_goesIn [vR 704 0, vI (nI deep)] J L (fun x I' L' => (¬ x = 0 → A I' L') ∧ (¬ (¬ x = 0) → Z I' L')) := by
  have hf := tk_f (B := B) hS.1.2.2.1
  have hf1 := hf.1
  have hlt := hf.2.2.2.2.2.1 h24
  refine c_M_goesIn hd hS.1 hdp (fun e I' hP' hN => ⟨fun _ => ?_, fun q => absurd (by decide) q⟩) (fun e I' hF' hN => ⟨fun q => absurd rfl q, fun _ => ?_⟩)
  · rcases opn_cs h with ⟨_, hk⟩ | ⟨hx, _⟩
    · exact h1 I' e (mS_N hS hP' hN (by omega)) hk
    · exact absurd e hx
  · rcases opn_cs h with ⟨hx, _⟩ | ⟨_, hr⟩
    · exact absurd hx e
    · exact h0 I' _ hF' (hS.2.2.2.1.tr (frN_L hN)) hr
theorem cmp_on {f p m d deep cd o : Nat} {ac : List Nat} {g : DN} {I0 J : MI} {L : ML} {K : MI → ML → Prop} {r : PR} (hA : rdA B n rd f) (hdp : deep ≤ 6) (hd : dpM 2 deep ≤ d) (hS : mS B n rd I0 m ac 0 p J) (h24 : (tkn B n p).1 ≠ 24) (h : cmq (prs B n rd f) cd o deep (tkn B n p).2.2.1 ac g = some r) (hK : ∀ J', mOut B n I0 m r J' → K J' L) : CV d m_M_next [vR 704 0] J L (fun I1 L1 => CV d m_M_readSum [vR 704 0, vI (nI deep)] I1 L1 (fun I2 L2 => CV d m_M_codes [vR 704 0, vI (nI cd)] I2 L2 K)) := by
  have hd16 : 16 ≤ d := by rw [dp_2] at hd; omega
  refine nxt_on (by omega) hS h24 (fun J1 h1 => sub_on (sub := 2) hA (by omega) hdp h1 hd h (fun J2 x hF hL er => c_M_codesF (by omega) hF (hK J2 (by rw [er]; exact ⟨hF, hL⟩))) (fun J2 p2 c g2 h2 hlt hk => cod_on (by omega) h2 (fun J3 h3 => hK J3 ?_)))
  injection hk with hk
  rw [← hk]
  exact mS_O h3
theorem if_on {f p m d deep : Nat} {I0 J : MI} {L : ML} {K : MI → ML → Prop} {r : PR} (hA : rdA B n rd f) (hdp : deep ≤ 6) (hd : dpM 0 deep ≤ d + 2) (hS : mS B n rd I0 m [] 0 p J) (h24 : (tkn B n p).1 ≠ 24) (h : opn B n deep p (fun e => bnd (prs B n rd f 5 (deep + 1) e [] d0) (fun p1 c1 g1 => exq B n p1 11 (fun p2 => bnd (prs B n rd f 2 (deep + 1) p2 [] d0) (fun p3 c2 g2 => exq B n p3 12 (fun p4 => bnd (prs B n rd f 2 (deep + 1) p4 [] d0) (fun p5 c3 g3 => exq B n p5 13 (fun p6 => some (Sum.inr (p6, c1 ++ c2 ++ c3 ++ [3009], fun nm => if g1 nm = 0 then g3 nm else g2 nm))))))))) = some r) (hK : ∀ J', mOut B n I0 m r J' → K J' L) : CV (d + 1) m_M_readIf [vR 704 0, vI (nI deep)] J L K := by
  have hd16 : 11 ≤ d := by rw [dp_0] at hd; omega
  have eD : nI deep + 1 = nI (deep + 1) := nI_1 deep
  have fl : ∀ J' k pl, FtM J' k pl → K J' L → CV d m_M_codes [vR 704 0, vI 3009] J' L K := fun J' k pl hF hk => c_M_codesF (by omega) hF hk
  have fe : ∀ J' k pl, FtM J' k pl → K J' L → CI d m_M_eats [vR 704 0, vI 13] J' L (fun x18 I16 L17 => (¬ x18 = 0 → (CV d m_M_codes [vR 704 0, vI 3009] I16 L17 K)) ∧ (¬ (¬ x18 = 0) → (CV d m_M_fails [vR 704 0, vI 2] I16 L17 (fun I21 L22 => CV d m_M_codes [vR 704 0, vI 3009] I21 L22 K)))) := fun J' k pl hF hk => eat_F (by omega) hF (fl J' k pl hF hk)
  refine toCV (n := d) (Nat.le_refl _) (r_M_readIf_0 ?_)
  rw [eD]
  have bad : ∀ J' x, FtM J' x.1 x.2 → frL I0 J' → r = Sum.inl x → K J' L := fun J' x hF hL er => hK J' (by rw [er]; exact ⟨hF, hL⟩)
  have hd5 : deep < 6 → dpM 5 (deep + 1) ≤ d := fun z => by rw [dp_5]; rw [dp_0] at hd; omega
  have hd2 : deep < 6 → dpM 2 (deep + 1) ≤ d := fun z => by rw [dp_2]; rw [dp_0] at hd; omega
  refine in_on (by omega) hS hdp h24 h (fun J1 lt h1 k1 => ?_) (fun J' x hF hL er => ⟨rfl, bad J' x hF hL er⟩)
  refine sub_on (sub := 5) hA (by omega) (by omega) h1 (hd5 lt) k1 (fun J' x hF hL er => ?_) (fun J2 p1 c1 g1 h2 _ k2 => ?_)
  · exact eat_F (by omega) hF (c_M_sumF (by omega) hF (eat_F (by omega) hF (c_M_sumF (by omega) hF (eat_F (by omega) hF (c_M_codesF (by omega) hF ⟨rfl, bad J' x hF hL er⟩)))))
  refine eat_on (j := 11) (by omega) h2 (by omega) (by omega) k2 (fun J3 h3 k3 => ?_) (fun J' x hF hL er => ?_)
  · refine sub_on (sub := 2) hA (by omega) (by omega) h3 (hd2 lt) k3 (fun J' x hF hL er => ?_) (fun J4 p3 c2 g2 h4 _ k4 => ?_)
    · exact eat_F (by omega) hF (c_M_sumF (by omega) hF (eat_F (by omega) hF (c_M_codesF (by omega) hF ⟨rfl, bad J' x hF hL er⟩)))
    refine eat_on (j := 12) (by omega) h4 (by omega) (by omega) k4 (fun J5 h5 k5 => ?_) (fun J' x hF hL er => ?_)
    · refine sub_on (sub := 2) hA (by omega) (by omega) h5 (hd2 lt) k5 (fun J' x hF hL er => ?_) (fun J6 p5 c3 g3 h6 _ k6 => ?_)
      · exact eat_F (by omega) hF (c_M_codesF (by omega) hF ⟨rfl, bad J' x hF hL er⟩)
      refine eat_on (j := 13) (by omega) h6 (by omega) (by omega) k6 (fun J7 h7 k7 => ?_) (fun J' x hF hL er => ?_)
      · refine cod_on (k := 3009) (by omega) h7 (fun J8 h8 => ⟨rfl, hK J8 ?_⟩)
        injection k7 with k7
        rw [← k7]
        exact mS_O h8
      · exact c_M_codesF (by omega) hF ⟨rfl, bad J' x hF hL er⟩
    · exact c_M_sumF (by omega) hF (eat_F (by omega) hF (c_M_codesF (by omega) hF ⟨rfl, bad J' x hF hL er⟩))
  · exact c_M_sumF (by omega) hF (eat_F (by omega) hF (c_M_sumF (by omega) hF (eat_F (by omega) hF (c_M_codesF (by omega) hF ⟨rfl, bad J' x hF hL er⟩))))
theorem nmW_lt {k : Nat} {q : Nat × Nat} (hq : nmW rd k = some q) : q.1 ≤ 5 ∧ k ≠ 24 := by
  unfold nmW at hq
  split at hq
  · injection hq with hq; subst hq; exact ⟨by show 0 ≤ 5; omega, by omega⟩
  split at hq
  · injection hq with hq; subst hq; exact ⟨by show 1 ≤ 5; omega, by omega⟩
  split at hq
  · injection hq with hq; subst hq; exact ⟨by show 2 ≤ 5; omega, by omega⟩
  split at hq
  · injection hq with hq; subst hq; exact ⟨by show 3 ≤ 5; omega, by omega⟩
  split at hq
  · injection hq with hq; subst hq; exact ⟨by show 4 ≤ 5; omega, by omega⟩
  split at hq
  · injection hq with hq; subst hq; exact ⟨by show 5 ≤ 5; omega, by omega⟩
  · exact absurd hq (by simp)
theorem rdA_0 {f : Nat} (hr : rd ≤ 1) (hA : rdA B n rd f) {deep p m : Nat} {r : PR} {d : Nat} {I : MI} {L : ML} {K : MI → ML → Prop} (hdp : deep ≤ 6) (h : bAt B n rd (prs B n rd f) deep p = some r) (hP : PsM I B n p) (h15 : I 704 0 15 = nI rd) (h283 : I 709 0 283 = nI m) (hm : m ≤ p) (hd : dpM 0 deep ≤ d) (hK : ∀ I', mOut B n I m r I' → K I' L) : CV d m_M_readAtom [vR 704 0, vI (nI deep)] I L K := by
  obtain ⟨d, rfl⟩ : ∃ z, d = z + 2 := ⟨d - 2, by rw [dp_0] at hd; omega⟩
  have hd16 : 11 ≤ d := by rw [dp_0] at hd; omega
  have hS := mS_0 hP h15 h283 hm
  have eD : nI deep + 1 = nI (deep + 1) := nI_1 deep
  have e9 : I 704 0 9 = nI (tkn B n p).1 := hP.2.1.2.2.1
  have hl := tk_lt (B := B) hP.2.2.1
  have hf := tk_f (B := B) hP.2.2.1
  have hf1 := hf.1
  have bad : ∀ J' x, FtM J' x.1 x.2 → frL I J' → r = Sum.inl x → K J' L := fun J' x hF hL er => hK J' (by rw [er]; exact ⟨hF, hL⟩)
  have hd2 : deep < 6 → dpM 2 (deep + 1) ≤ d + 1 := fun z => by rw [dp_2]; rw [dp_0] at hd; omega
  refine toCV (n := d + 1) (Nat.le_refl _) (r_M_readAtom_0 ?_)
  rw [eD]
  unfold bAt at h
  refine c_M_is (j := 23) (by omega) hP (by omega) (fun e => ⟨fun z => absurd z (by decide), fun _ => ?_⟩) (fun e => ⟨fun _ => ⟨fun z => absurd hP.2.2.2 z, fun _ => ?_⟩, fun z => absurd rfl z⟩)
  · rw [if_pos e] at h
    injection h with h
    rw [hP.2.1.2.2.2 e]
    have hlt := hf.2.2.2.2.2.1 (by omega)
    have hn := hP.1.2.1
    have hp2 := hf.2.2.1
    refine c_M_codes (by omega) hP (cdA_0 h283) frL.rf (by show m + 0 < 900; omega) (fun I1 hP1 hc1 hF1 => c_M_next (by omega) hP1 (fun I2 hP2 hF2 => ⟨rfl, hK I2 ?_⟩))
    rw [← h]
    have hN := frW_N hF2
    exact ⟨hP2, cdA_fr hc1 hN, hF1.tr (frN_L hN)⟩
  · rw [if_neg e] at h
    rw [e9]
    refine c_M_wordOf (k := (tkn B n p).1) (by omega) h15 hr hl (fun q hq => ⟨fun z => ?_, fun _ => ?_⟩) (fun hq => ⟨fun _ => ?_, fun z => absurd rfl z⟩)
    · have q5 := (nmW_lt hq).1
      exact absurd z (nI_m1 (by omega))
    · obtain ⟨q5, q24⟩ := nmW_lt hq
      rw [hq] at h
      injection h with h
      rw [e9]
      have hlt := hf.2.2.2.2.2.1 q24
      have hn := hP.1.2.1
      have hp2 := hf.2.2.1
      refine c_M_wordOf (k := (tkn B n p).1) (by omega) h15 hr hl (fun q' hq' => ?_) (fun hq' => absurd (hq.symm.trans hq') (by simp))
      have eq : q' = q := by rw [hq] at hq'; injection hq' with hq'; exact hq'.symm
      subst eq
      have e1 : (1000 : Int32) + nI q'.1 = nI (1000 + q'.1) := nI_add 1000 _
      rw [e1]
      refine c_M_codes (by omega) hP (cdA_0 h283) frL.rf (by show m + 0 < 900; omega) (fun I1 hP1 hc1 hF1 => c_M_next (by omega) hP1 (fun I2 hP2 hF2 => ⟨rfl, hK I2 ?_⟩))
      rw [← h]
      have hN := frW_N hF2
      exact ⟨hP2, cdA_fr hc1 hN, hF1.tr (frN_L hN)⟩
    · rw [hq] at h
      have h : (if (tkn B n p).1 = 35 then _ else _) = some r := h
      refine c_M_is (j := 35) (by omega) hP (by omega) (fun e2 => ⟨fun z => absurd z (by decide), fun _ => ?_⟩) (fun e2 => ⟨fun _ => ?_, fun z => absurd rfl z⟩)
      · rw [if_pos e2] at h
        refine in_on (by omega) hS hdp (by omega) h (fun J1 lt h1 k1 => ?_) (fun J' x hF hL er => ⟨rfl, bad J' x hF hL er⟩)
        refine sub_on (sub := 2) hA (by omega) (by omega) h1 (hd2 lt) k1 (fun J' x hF hL er => ?_) (fun J2 p1 c1 g1 h2 _ k2 => ?_)
        · exact eat_F (by omega) hF ⟨rfl, bad J' x hF hL er⟩
        refine eat_on (j := 36) (by omega) h2 (by omega) (by omega) k2 (fun J3 h3 k3 => ⟨rfl, hK J3 ?_⟩) (fun J' x hF hL er => ⟨rfl, bad J' x hF hL er⟩)
        injection k3 with k3
        rw [← k3]
        exact mS_O h3
      · rw [if_neg e2] at h
        refine c_M_is (j := 10) (by omega) hP (by omega) (fun e3 => ⟨fun z => absurd z (by decide), fun _ => ?_⟩) (fun e3 => ⟨fun _ => c_M_fails (w := 2) (by omega) hP (by omega) (by omega) (fun I' hF' hN => ⟨rfl, bad I' (fkN (tkn B n p).1 2, (tkn B n p).2.1) hF' (frN_L hN) ?_⟩), fun z => absurd rfl z⟩)
        · rw [if_pos e3] at h
          exact if_on hA hdp hd hS (by omega) h (fun J' hO => ⟨rfl, hK J' hO⟩)
        · rw [if_neg e3] at h
          unfold flt at h
          injection h with h
          exact h.symm
theorem rdA_3 {f : Nat} (hA : rdA B n rd f) {deep p m : Nat} {r : PR} {d : Nat} {I : MI} {L : ML} {K : MI → ML → Prop} (hdp : deep ≤ 6) (h : bUn B n (prs B n rd f) deep p = some r) (hP : PsM I B n p) (h15 : I 704 0 15 = nI rd) (h283 : I 709 0 283 = nI m) (hm : m ≤ p) (hd : dpM 3 deep ≤ d) (hK : ∀ I', mOut B n I m r I' → K I' L) : CV d m_M_readUnit [vR 704 0, vI (nI deep)] I L K := by
  obtain ⟨d, rfl⟩ : ∃ z, d = z + 1 := ⟨d - 1, by rw [dp_3] at hd; omega⟩
  have hd16 : 17 ≤ d := by rw [dp_3] at hd; omega
  have hS := mS_0 hP h15 h283 hm
  have eD : nI deep + 1 = nI (deep + 1) := nI_1 deep
  have bad : ∀ J' x, FtM J' x.1 x.2 → frL I J' → r = Sum.inl x → K J' L := fun J' x hF hL er => hK J' (by rw [er]; exact ⟨hF, hL⟩)
  have hd2 : dpM 2 deep ≤ d := by rw [dp_2]; rw [dp_3] at hd; omega
  have hd3 : deep < 6 → dpM 3 (deep + 1) ≤ d := fun z => by rw [dp_3]; rw [dp_3] at hd; omega
  have hd5 : deep < 6 → dpM 5 (deep + 1) ≤ d := fun z => by rw [dp_5]; rw [dp_3] at hd; omega
  refine toCV (n := d) (Nat.le_refl _) (r_M_readUnit_0 ?_)
  rw [eD]
  unfold bUn at h
  refine c_M_is (j := 20) (by omega) hP (by omega) (fun e => ⟨fun z => absurd z (by decide), fun _ => ?_⟩) (fun e => ⟨fun _ => ?_, fun z => absurd rfl z⟩)
  · rw [if_pos e] at h
    refine in_on (by omega) hS hdp (by omega) h (fun J1 lt h1 k1 => ?_) (fun J' x hF hL er => ⟨rfl, bad J' x hF hL er⟩)
    refine sub_on (sub := 3) hA (by omega) (by omega) h1 (hd3 lt) k1 (fun J' x hF hL er => ?_) (fun J2 p1 c1 g1 h2 _ k2 => ?_)
    · exact c_M_codesF (by omega) hF ⟨rfl, bad J' x hF hL er⟩
    refine cod_on (k := 3006) (by omega) h2 (fun J8 h8 => ⟨rfl, hK J8 ?_⟩)
    injection k2 with k2
    rw [← k2]
    exact mS_O h8
  rw [if_neg e] at h
  refine c_M_is (j := 37) (by omega) hP (by omega) (fun e2 => ⟨fun z => absurd z (by decide), fun _ => ?_⟩) (fun e2 => ⟨fun _ => ?_, fun z => absurd rfl z⟩)
  · rw [if_pos e2] at h
    refine in_on (by omega) hS hdp (by omega) h (fun J1 lt h1 k1 => ?_) (fun J' x hF hL er => ⟨rfl, bad J' x hF hL er⟩)
    refine sub_on (sub := 5) hA (by omega) (by omega) h1 (hd5 lt) k1 (fun J' x hF hL er => ?_) (fun J2 p1 c1 g1 h2 _ k2 => ?_)
    · exact eat_F (by omega) hF ⟨rfl, bad J' x hF hL er⟩
    refine eat_on (j := 38) (by omega) h2 (by omega) (by omega) k2 (fun J3 h3 k3 => ⟨rfl, hK J3 ?_⟩) (fun J' x hF hL er => ⟨rfl, bad J' x hF hL er⟩)
    injection k3 with k3
    rw [← k3]
    exact mS_O h3
  rw [if_neg e2] at h
  refine sub_on (sub := 2) hA (by omega) (by omega) hS hd2 h (fun J' x hF hL er => ?_) (fun J2 p1 c g h2 _ k2 => ?_)
  · exact c_M_isF (by omega) hF ⟨fun _ => c_M_isF (by omega) hF ⟨fun _ => c_M_isF (by omega) hF ⟨fun q => absurd rfl q, fun _ => c_M_isF (by omega) hF ⟨fun q => absurd rfl q, fun _ => c_M_isF (by omega) hF ⟨fun _ => c_M_failsF (by omega) hF (c_M_sumF (by omega) hF (c_M_codesF (by omega) hF ⟨rfl, bad J' x hF hL er⟩)), fun q => absurd rfl q⟩⟩⟩, fun q => absurd rfl q⟩, fun q => absurd rfl q⟩
  have hK' : ∀ J', mOut B n I m r J' → (none : Option MV) = none ∧ K J' L := fun J' hO => ⟨rfl, hK J' hO⟩
  have hPJ := h2.1
  have h2 : mS B n rd I m c 0 p1 J2 := h2
  refine c_M_is (j := 39) (by omega) hPJ (by omega) (fun e3 => ⟨fun z => absurd z (by decide), fun _ => ?_⟩) (fun e3 => ⟨fun _ => ?_, fun z => absurd rfl z⟩)
  · rw [if_pos e3] at k2
    refine c_M_is (j := 39) (by omega) hPJ (by omega) (fun _ => ⟨fun _ => ?_, fun z => absurd (by decide) z⟩) (fun z => absurd e3 z)
    exact cmp_on hA hdp hd2 h2 (by omega) k2 hK'
  rw [if_neg e3] at k2
  refine c_M_is (j := 40) (by omega) hPJ (by omega) (fun e4 => ⟨fun z => absurd z (by decide), fun _ => ?_⟩) (fun e4 => ⟨fun _ => ?_, fun z => absurd rfl z⟩)
  · rw [if_pos e4] at k2
    refine c_M_is (j := 39) (by omega) hPJ (by omega) (fun z => absurd z e3) (fun _ => ⟨fun z => absurd rfl z, fun _ => ?_⟩)
    refine c_M_is (j := 40) (by omega) hPJ (by omega) (fun _ => ⟨fun _ => ?_, fun z => absurd (by decide) z⟩) (fun z => absurd e4 z)
    exact cmp_on hA hdp hd2 h2 (by omega) k2 hK'
  rw [if_neg e4] at k2
  refine c_M_is (j := 39) (by omega) hPJ (by omega) (fun z => absurd z e3) (fun _ => ⟨fun z => absurd rfl z, fun _ => ?_⟩)
  refine c_M_is (j := 40) (by omega) hPJ (by omega) (fun z => absurd z e4) (fun _ => ⟨fun z => absurd rfl z, fun _ => ?_⟩)
  refine c_M_is (j := 41) (by omega) hPJ (by omega) (fun e5 => ⟨fun z => absurd z (by decide), fun _ => ?_⟩) (fun e5 => ⟨fun _ => ?_, fun z => absurd rfl z⟩)
  · rw [if_pos e5] at k2
    exact cmp_on hA hdp hd2 h2 (by omega) k2 hK'
  · rw [if_neg e5] at k2
    unfold flt at k2
    injection k2 with k2
    exact c_M_fails (w := 2) (by omega) hPJ (by omega) (by omega) (fun I' hF' hN => c_M_sumF (by omega) hF' (c_M_codesF (by omega) hF' ⟨rfl, bad I' _ hF' (h2.2.2.2.1.tr (frN_L hN)) k2.symm⟩))
theorem rdAll (hr : rd ≤ 1) : ∀ f, rdA B n rd f ∧ rdL B n rd f 6 1 m_M_readTerm (fun deep => [vR 704 0, vI (nI deep)]) ∧ rdL B n rd f 7 2 m_M_readSum (fun deep => [vR 704 0, vI (nI deep), vD]) ∧ rdL B n rd f 8 4 m_M_readBoth (fun deep => [vR 704 0, vI (nI deep)]) ∧ rdL B n rd f 9 5 m_M_readTruth (fun deep => [vR 704 0, vI (nI deep)]) := by
  intro f
  induction f with
  | zero =>
    refine ⟨fun nt deep p m r d I L K _ _ h => ?_, fun deep p m ac ag r d I0 J L Q _ h => ?_, fun deep p m ac ag r d I0 J L Q _ h => ?_, fun deep p m ac ag r d I0 J L Q _ h => ?_, fun deep p m ac ag r d I0 J L Q _ h => ?_⟩ <;> exact absurd h (by simp [prs])
  | succ f ih =>
    obtain ⟨hA, h6, h7, h8, h9⟩ := ih
    refine ⟨?_, ?_, ?_, ?_, ?_⟩
    · intro nt deep p m r d I L K hnt hdp h hP h15 h283 hm hd hK
      have h : bdy B n rd (prs B n rd f) nt deep p [] d0 = some r := h
      match nt, hnt, h, hd with
      | 0, _, h, hd => exact rdA_0 hr hA hdp h hP h15 h283 hm hd hK
      | 1, _, h, hd =>
        obtain ⟨d, rfl⟩ : ∃ z, d = z + 1 := ⟨d - 1, by rw [dp_1] at hd; omega⟩
        exact toCV (n := d) (Nat.le_refl _) (r_M_readTerm_0 (seqM (sub := 0) (self := 6) (nt := 1) (ls := fun deep => [vR 704 0, vI (nI deep)]) hA h6 (by omega) (by omega) (by omega) (fun _ _ z => z) hdp h hP h15 h283 hm (by rw [dp_0]; rw [dp_1] at hd; omega) hd (fun I' k pl hF hq => r_M_readTerm_5 (c_M_eatsF (by rw [dp_1] at hd; omega) hF ⟨fun _ => hq, fun z => absurd rfl z⟩)) (fun I' hO => ⟨rfl, hK I' hO⟩)))
      | 2, _, h, hd =>
        obtain ⟨d, rfl⟩ : ∃ z, d = z + 1 := ⟨d - 1, by rw [dp_2] at hd; omega⟩
        have hd9 : 9 ≤ d := by rw [dp_2] at hd; omega
        exact toCV (n := d) (Nat.le_refl _) (r_M_readSum_0 (seqM (sub := 1) (self := 7) (nt := 2) (ls := fun deep => [vR 704 0, vI (nI deep), vD]) hA h7 (by omega) (by omega) (by omega) (fun _ _ z => z) hdp h hP h15 h283 hm (by rw [dp_1]; rw [dp_2] at hd; omega) hd (fun I' k pl hF hq => r_M_readSum_5 (c_M_isF (by omega) hF ⟨fun z => absurd rfl z, fun _ => c_M_isF (by omega) hF ⟨fun _ => hq, fun z => absurd rfl z⟩⟩)) (fun I' hO => ⟨rfl, hK I' hO⟩)))
      | 3, _, h, hd => exact rdA_3 hA hdp h hP h15 h283 hm hd hK
      | 4, _, h, hd =>
        obtain ⟨d, rfl⟩ : ∃ z, d = z + 1 := ⟨d - 1, by rw [dp_4] at hd; omega⟩
        exact toCV (n := d) (Nat.le_refl _) (r_M_readBoth_0 (seqM (sub := 3) (self := 8) (nt := 4) (ls := fun deep => [vR 704 0, vI (nI deep)]) hA h8 (by omega) (by omega) (by omega) (fun _ _ z => z) hdp h hP h15 h283 hm (by rw [dp_3]; rw [dp_4] at hd; omega) hd (fun I' k pl hF hq => r_M_readBoth_5 (c_M_eatsF (by rw [dp_4] at hd; omega) hF ⟨fun _ => hq, fun z => absurd rfl z⟩)) (fun I' hO => ⟨rfl, hK I' hO⟩)))
      | 5, _, h, hd =>
        obtain ⟨d, rfl⟩ : ∃ z, d = z + 1 := ⟨d - 1, by rw [dp_5] at hd; omega⟩
        exact toCV (n := d) (Nat.le_refl _) (r_M_readTruth_0 (seqM (sub := 4) (self := 9) (nt := 5) (ls := fun deep => [vR 704 0, vI (nI deep)]) hA h9 (by omega) (by omega) (by omega) (fun _ _ z => z) hdp h hP h15 h283 hm (by rw [dp_4]; rw [dp_5] at hd; omega) hd (fun I' k pl hF hq => r_M_readTruth_5 (c_M_eatsF (by rw [dp_5] at hd; omega) hF ⟨fun _ => hq, fun z => absurd rfl z⟩)) (fun I' hO => ⟨rfl, hK I' hO⟩)))
      | k + 6, hnt, _, _ => omega
    · exact rdL_of (sub := 0) (tk := 34) (cd := 3002) (o := 4) hA h6 (by omega) (by omega) (by omega) (by omega) (by omega) (by decide) (fun _ _ _ _ => of2_rg (Or.inr (Or.inr rfl))) (fun deep => by rw [dp_0, dp_1]; omega) (fun _ _ _ _ => rfl) (fun d deep Q J L h => r_M_readTerm_5 h)
    · exact sumL_of hA h7
    · exact rdL_of (sub := 3) (tk := 18) (cd := 3007) (o := 8) hA h8 (by omega) (by omega) (by omega) (by omega) (by omega) (by decide) (fun x y a b => of2_tr (Or.inl rfl) (show x = 0 ∨ x = 1 from a) (show y = 0 ∨ y = 1 from b)) (fun deep => by rw [dp_3, dp_4]; omega) (fun _ _ _ _ => rfl) (fun d deep Q J L h => r_M_readBoth_5 h)
    · exact rdL_of (sub := 4) (tk := 19) (cd := 3008) (o := 9) hA h9 (by omega) (by omega) (by omega) (by omega) (by omega) (by decide) (fun x y a b => of2_tr (Or.inr rfl) (show x = 0 ∨ x = 1 from a) (show y = 0 ∨ y = 1 from b)) (fun deep => by rw [dp_4, dp_5]; omega) (fun _ _ _ _ => rfl) (fun d deep Q J L h => r_M_readTruth_5 h)
end ReadM3

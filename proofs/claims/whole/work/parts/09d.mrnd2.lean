/-! the reference goes on -/
/-- the reference's stand -/
def MSt (f : Nat → Int32) (s : SA) : Prop := (∀ c, c < 6 → f (62 + c) = s.1 c ∧ f (68 + c) = s.2.1 c ∧ f (74 + c) = s.2.2.1 c) ∧ f 80 = s.2.2.2.1 ∧ f 81 = s.2.2.2.2
/-- ready before round r, from stand s -/
def MGr (I : MI) (R : RD) (r : Nat) (s : SA) : Prop := rwA I R r s ∧ (∀ c, c < rC R → I 725 0 c = s.2.2.1 c) ∧ ∃ m, m ≤ 9 ∧ s.2.2.2.1 = nI m ∧ I 704 0 21 = nI m ∧ mtA I R m (rW R)
def gsS : Nat → Nat → Prop := fun r a => (r = 704 ∨ r = 721 ∨ r = 722 ∨ r = 724 ∨ r = 725) ∧ a = 0
theorem li_gs {I I' : MI} (h : Same liS I I') : Same gsS I I' := h.mono (fun _ _ q => ⟨by rcases q.1 with z | z | z <;> simp [z], q.2⟩)
theorem gs_gr {I I' : MI} (h : Same gsS I I') : Same grS I I' := h.mono (fun _ _ q => ⟨by rcases q.1 with z | z | z | z | z <;> simp [z], q.2⟩)
theorem gs_no {I I' : MI} (h : Same gsS I I') {r : Nat} (h1 : ¬ (r = 704 ∨ r = 721 ∨ r = 722 ∨ r = 724 ∨ r = 725)) : I' r 0 = I r 0 := h r 0 (fun q => h1 q.1)
section MRnd2
variable {d : Nat} {I : MI} {L : ML} {R : RD}
theorem fsh_up {s : SA} {out : Int32} {c k : Nat} (h : k < c) : fsh R s out (c + 1) k = fsh R s out c k := by simp only [fsh]; rw [if_neg (by omega)]
theorem c_M_goes {s : SA} {r : Nat} {out : Int32} {K : MI → ML → Prop} (hd : 5 ≤ d) (hR : WF R) (hM : MRo (I 706 0) R) (hr : r ≤ 998) (hG : MGr I R r s) (hS : SR R s 1000)
    (h : ∀ I', MGr I' R (r + 1) (trn R s out) → (∀ j, j < 6 * (r + 2) → I' 724 0 j = I 724 0 j) → ofl I I' → Same gsS I I' → K I' L) : CV d m_M_goes [vR 704 0, vI (nI r), vI out] I L K := by
  refine toCV (n := 4) hd (r_M_goes_0 ?_)
  have hC := hR.1
  obtain ⟨hrow, hheld, m, hm, em, h21, ht⟩ := hG
  have key : ∀ (n c : Nat) (J : MI), c + n = rC R → (∀ k, k < c → J 724 0 (6 * (r + 2) + k) = fsh R s out c k) → (∀ k, k < c → J 725 0 k = 0) → (∀ k, c ≤ k → J 725 0 k = I 725 0 k) → (∀ j, j < 6 * (r + 2) → J 724 0 j = I 724 0 j) → J 704 0 21 = nI m → ofl I J → Same gsS I J → XX (4 + 1) m_M_goes (fun r I' L' => r = none ∧ K I' L') 2 [vR 704 0, vI (nI r), vI out, vI (nI c)] [] J L := by
    intro n
    induction n with
    | zero =>
      intro c J hc hf h0 h1 hlo j21 ho hs
      have n6 : J 706 0 = I 706 0 := gs_no hs (by decide)
      have n23 : J 723 0 = I 723 0 := gs_no hs (by decide)
      refine r_M_goes_2 ?_
      rw [n6, hM.1]
      have ec : c = rC R := by omega
      refine ⟨fun _ => ⟨rfl, h J ⟨fun k hk => ⟨?_, ?_⟩, fun k hk => h0 k (by omega), m, hm, em, j21, fun w hw => by rw [n23]; exact ht w hw⟩ hlo ho hs⟩, fun q => absurd (nI_le (show rC R ≤ c by omega) (by omega)) q⟩
      · have := hf k (by omega)
        rw [show 6 * (r + 1 + 1) + k = 6 * (r + 2) + k from rfl, this]
        show fsh R s out c k = frO R s out k
        unfold frO
        rw [if_pos hk, ec]
      · rw [hlo _ (by omega)]
        exact (hrow k hk).1
    | succ n ih =>
      intro c J hc hf h0 h1 hlo j21 ho hs
      have hcR : c < rC R := by omega
      have n6 : J 706 0 = I 706 0 := gs_no hs (by decide)
      have n23 : J 723 0 = I 723 0 := gs_no hs (by decide)
      refine r_M_goes_2 ?_
      rw [n6, hM.1]
      refine ⟨fun q => absurd q (nI_ge hcR (by omega)), fun _ => ?_⟩
      have e25 : J 725 0 c = s.2.2.1 c := by rw [h1 c (Nat.le_refl _)]; exact hheld c hcR
      refine c_M_lateIn (s := s) (m := m) (fr := fsh R s out c) (by omega) hR (by rw [n6]; exact hM) hm j21 (fun w hw => by rw [n23]; exact ht w hw) hr hcR (fun k hk => ⟨by rw [hlo _ (by omega)]; exact (hrow k hk).1, by rw [hlo _ (by omega)]; exact (hrow k hk).2⟩) hf (fun k hk => fsh_rg hR (Nat.le_refl _) hS c (by omega) k hk) (fun k hk => ⟨(hS.1 k hk).1, (hS.1 k hk).2.1⟩) (by rw [e25]; exact (hS.1 c hcR).2.2) (fun J1 _ k21 ho1 hs1 => ?_)
      have eix : ((6 : Int32) * (nI r + (2 : Int32))) + nI c = nI (6 * (r + 2) + c) := by
        have a1 : nI r + (2 : Int32) = nI (r + 2) := nI_add r 2
        have a2 : (6 : Int32) * nI (r + 2) = nI (6 * (r + 2)) := pk_mul 6 _
        rw [a1, a2, nI_add]
      rw [eix, cl_n (by omega), cl_n (by omega), nI_1]
      have k24 : J1 724 0 = J 724 0 := li_no hs1 (by decide) (by decide) (by decide)
      have k25 : J1 725 0 = J 725 0 := li_no hs1 (by decide) (by decide) (by decide)
      refine ⟨vin (by omega) (by omega), vin (by omega) (by omega), ih (c + 1) _ (by omega) (fun k hk => ?_) (fun k hk => ?_) (fun k hk => ?_) (fun j hj => ?_) (by rw [ui_r (by decide), ui_r (by decide)]; exact k21) (fun j a b => by rw [ui_r (by decide), ui_r (by decide), ho1 j a b]; exact ho j a b) (((hs.tr (li_gs hs1)).ui ⟨by simp, rfl⟩).ui ⟨by simp, rfl⟩)⟩
      · rw [ui_r (by decide)]
        by_cases e : k = c
        · subst e
          rw [ui_s, fsh_at, em, e25]
        · rw [ui_k (by omega), k24, fsh_up (by omega)]
          exact hf k (by omega)
      · by_cases e : k = c
        · subst e; rw [ui_s]
        · rw [ui_k e, ui_r (by decide), k25]
          exact h0 k (by omega)
      · rw [ui_k (by omega), ui_r (by decide), k25]
        exact h1 k (by omega)
      · rw [ui_r (by decide), ui_k (by omega), k24]
        exact hlo j hj
  exact key (rC R) 0 I (by omega) (fun k hk => by omega) (fun k hk => by omega) (fun k hk => rfl) (fun j hj => rfl) h21 (fun j a b => rfl) Same.rf
theorem c_M_begins {s : SA} {m : Nat} {K : MI → ML → Prop} (hd : 5 ≤ d) (hR : WF R) (hM : MRo (I 706 0) R) (hm : m ≤ 9) (hs0 : MSt (I 706 0) s) (h : ∀ I', MGr I' R 0 (s.1, s.2.1, s.2.2.1, nI m, s.2.2.2.2) → (∀ c, c < 6 → I' 725 0 c = s.2.2.1 c) → ofl I I' → Same grS I I' → K I' L) : CV d m_M_begins [vR 704 0, vI (nI m)] I L K := by
  refine toCV (n := 4) hd (r_M_begins_0 ?_)
  have hC := hR.1
  refine c_M_laysTimes (by omega) hR hM hm (fun I1 ht h21 ho hs => ?_)
  have key : ∀ (n c : Nat) (J : MI), c + n = 6 → (∀ k, k < c → J 724 0 k = s.2.1 k ∧ J 724 0 (6 + k) = s.1 k ∧ J 725 0 k = s.2.2.1 k) → mtA J R m (rW R) → J 704 0 21 = nI m → ofl I J → Same grS I J → XX (4 + 1) m_M_begins (fun r I' L' => r = none ∧ K I' L') 7 [vR 704 0, vD, vI (nI c)] [] J L := by
    intro n
    induction n with
    | zero =>
      intro c J hc hf htJ j21 hoJ hsJ
      have ec : c = 6 := by omega
      subst ec
      refine r_M_begins_7 ⟨fun _ => ⟨rfl, h J ⟨fun k hk => ?_, fun k hk => (hf k (by omega)).2.2, m, hm, rfl, j21, htJ⟩ (fun k hk => (hf k hk).2.2) hoJ hsJ⟩, fun q => absurd (by decide) q⟩
      obtain ⟨a1, a2, a3⟩ := hf k (by omega)
      exact ⟨a2, by rw [show 6 * 0 + k = k by omega]; exact a1⟩
    | succ n ih =>
      intro c J hc hf htJ j21 hoJ hsJ
      have n6 : J 706 0 = I 706 0 := gr_no hsJ (by decide)
      have e68 : (68 : Int32) + nI c = nI (68 + c) := nI_add 68 c
      have e62 : (62 : Int32) + nI c = nI (62 + c) := nI_add 62 c
      have e74 : (74 : Int32) + nI c = nI (74 + c) := nI_add 74 c
      have e6 : (6 : Int32) + nI c = nI (6 + c) := nI_add 6 c
      refine r_M_begins_7 ?_
      rw [e68, e62, e74, e6, cl_n (by omega), cl_n (by omega), cl_n (by omega), cl_n (by omega), cl_n (by omega), nI_1]
      refine ⟨fun q => absurd q (nle_c (m := 6) (by omega) (by omega)), fun _ => ⟨vin (by omega) (by omega), vin (by omega) (by omega), vin (by omega) (by omega), vin (by omega) (by omega), vin (by omega) (by omega), vin (by omega) (by omega), ?_⟩⟩
      have x6 : ∀ (J : MI) (r k : Nat) (x : Int32) (j : Nat), r ≠ 706 → ui J r 0 k x 706 0 j = J 706 0 j := fun J r k x j hr => ui_r (fun q => hr q.symm)
      rw [x6 _ _ _ _ _ (by decide), x6 _ _ _ _ _ (by decide), x6 _ _ _ _ _ (by decide), n6]
      obtain ⟨b1, b2, b3⟩ := hs0.1 c (by omega)
      rw [b1, b2, b3]
      refine ih (c + 1) _ (by omega) (fun k hk => ?_) (fun w hw => ?_) ?_ (fun j a b => ?_) (((hsJ.ui ⟨by simp, rfl⟩).ui ⟨by simp, rfl⟩).ui ⟨by simp, rfl⟩)
      · by_cases e : k = c
        · subst e
          refine ⟨?_, ?_, ?_⟩
          · rw [ui_r (by decide), ui_k (by omega), ui_s]
          · rw [ui_r (by decide), ui_s]
          · rw [ui_s]
        · obtain ⟨a1, a2, a3⟩ := hf k (by omega)
          refine ⟨?_, ?_, ?_⟩
          · rw [ui_r (by decide), ui_k (by omega), ui_k (by omega)]; exact a1
          · rw [ui_r (by decide), ui_k (by omega), ui_k (by omega)]; exact a2
          · rw [ui_k e, ui_r (by decide), ui_r (by decide)]; exact a3
      · rw [ui_r (by decide), ui_r (by decide), ui_r (by decide)]; exact htJ w hw
      · rw [ui_r (by decide), ui_r (by decide), ui_r (by decide)]; exact j21
      · rw [ui_r (by decide), ui_r (by decide), ui_r (by decide)]; exact hoJ j a b
  exact key 6 0 I1 (by omega) (fun k hk => by omega) ht h21 ho (lt_gr hs)
theorem c_M_rowAt {x : Int32} {r c : Nat} {K : Int32 → MI → ML → Prop} (hd : 1 ≤ d) (hx : x + (1 : Int32) = nI r) (hr : r ≤ 1000) (hc : c < 6) (h : K (I 724 0 (6 * r + c)) I L) : CI d m_M_lateAt [vR 704 0, vI x, vI (nI c)] I L K := by
  refine toCI (n := 0) hd (r_M_lateAt_0 ?_)
  have eix : ((6 : Int32) * (x + (1 : Int32))) + nI c = nI (6 * r + c) := by
    have a2 : (6 : Int32) * nI r = nI (6 * r) := pk_mul 6 _
    rw [hx, a2, nI_add]
  rw [eix, cl_n (by omega)]
  exact ⟨vin (by omega) (by omega), _, rfl, h⟩
theorem c_M_lateAt {r c : Nat} {K : Int32 → MI → ML → Prop} (hd : 1 ≤ d) (hr : r ≤ 999) (hc : c < 6) (h : K (I 724 0 (6 * (r + 1) + c)) I L) : CI d m_M_lateAt [vR 704 0, vI (nI r), vI (nI c)] I L K := c_M_rowAt hd (nI_add r 1) (by omega) hc h
theorem c_M_sumIn {x : Int32} {r C : Nat} {K : Int32 → MI → ML → Prop} (hd : 2 ≤ d) (hx : x + (1 : Int32) = nI r) (hr : r ≤ 1000) (h2 : I 706 0 2 = nI C) (hC : C ≤ 6) (h : K (sumN (fun c => I 724 0 (6 * r + c)) C) I L) : CI d m_M_sumIn [vR 704 0, vI x] I L K := by
  refine toCI (n := 1) hd (r_M_sumIn_0 ?_)
  have key : ∀ (n c : Nat), c + n = C → XX (1 + 1) m_M_sumIn (fun r I' L' => ∃ x, r = some (vI x) ∧ K x I' L') 4 [vR 704 0, vI x, vI (sumN (fun c => I 724 0 (6 * r + c)) c), vI (nI c)] [] I L := by
    intro n
    induction n with
    | zero =>
      intro c hc
      refine r_M_sumIn_4 ?_
      rw [h2]
      refine ⟨fun _ => ⟨_, rfl, by rw [show c = C by omega]; exact h⟩, fun q => absurd (nI_le (show C ≤ c by omega) (by omega)) q⟩
    | succ n ih =>
      intro c hc
      refine r_M_sumIn_4 ?_
      rw [h2, nI_1]
      exact ⟨fun q => absurd q (nI_ge (show c < C by omega) (by omega)), fun _ => c_M_rowAt (by omega) hx hr (by omega) (ih (c + 1) (by omega))⟩
  exact key C 0 (by omega)
theorem c_M_whoIn {x : Int32} {r C : Nat} {K : Int32 → MI → ML → Prop} (hd : 2 ≤ d) (hx : x + (1 : Int32) = nI r) (hr : r ≤ 1000) (h2 : I 706 0 2 = nI C) (hC : C ≤ 6) (h : K (whoN (fun c => I 724 0 (6 * r + c)) C) I L) : CI d m_M_whoIn [vR 704 0, vI x] I L K := by
  refine toCI (n := 1) hd (r_M_whoIn_0 ?_)
  have key : ∀ (n c : Nat), c + n = C → XX (1 + 1) m_M_whoIn (fun r I' L' => ∃ x, r = some (vI x) ∧ K x I' L') 4 [vR 704 0, vI x, vI (whoN (fun c => I 724 0 (6 * r + c)) c), vI (nI c)] [] I L := by
    intro n
    induction n with
    | zero =>
      intro c hc
      refine r_M_whoIn_4 ?_
      rw [h2]
      refine ⟨fun _ => ⟨_, rfl, by rw [show c = C by omega]; exact h⟩, fun q => absurd (nI_le (show C ≤ c by omega) (by omega)) q⟩
    | succ n ih =>
      intro c hc
      refine r_M_whoIn_4 ?_
      rw [h2, nI_1]
      refine ⟨fun q => absurd q (nI_ge (show c < C by omega) (by omega)), fun _ => c_M_rowAt (by omega) hx hr (by omega) ⟨fun q => ?_, fun q => ?_⟩⟩
      · have := ih (c + 1) (by omega)
        simp only [whoN] at this
        rw [if_neg (Int32.not_lt.mpr q)] at this
        rw [or0]
        exact this
      · have := ih (c + 1) (by omega)
        simp only [whoN] at this
        rw [if_pos (Int32.not_le.mp q)] at this
        exact this
  exact key C 0 (by omega)
def rdM : Nat → Nat → Prop := fun r a => (r = 704 ∨ r = 706 ∨ r = 721 ∨ r = 722 ∨ r = 723 ∨ r = 724 ∨ r = 725) ∧ a = 0
theorem gr_rd {I I' : MI} (h : Same grS I I') : Same rdM I I' := h.mono (fun _ _ q => ⟨by rcases q.1 with z | z | z | z | z | z <;> simp [z], q.2⟩)
theorem c_M_goesRound {s : SA} {out : Int32} {K : MI → ML → Prop} (hd : 6 ≤ d) (hR : WF R) (hM : MRo (I 706 0) R) (hs0 : MSt (I 706 0) s) (hS : SR R s 1000) (h : ∀ I', MSt (I' 706 0) (trn R s out) → (∀ j, j < 62 ∨ 82 ≤ j → I' 706 0 j = I 706 0 j) → ofl I I' → Same rdM I I' → K I' L) : CV d m_M_goesRound [vR 704 0, vI out] I L K := by
  refine toCV (n := 5) hd (r_M_goesRound_0 ?_)
  have hC := hR.1
  obtain ⟨m, hm, em⟩ := hS.2
  rw [hs0.2.1, em]
  refine c_M_begins (by omega) hR hM hm hs0 (fun I1 hG1 _ ho1 hs1 => ?_)
  have n1 : I1 706 0 = I 706 0 := gr_no hs1 (by decide)
  have es : ((s.1, s.2.1, s.2.2.1, nI m, s.2.2.2.2) : SA) = s := by rw [← em]
  rw [es] at hG1
  refine c_M_goes (s := s) (r := 0) (by omega) hR (by rw [n1]; exact hM) (by omega) hG1 hS (fun I2 hG2 _ ho2 hs2 => ?_)
  have n2 : I2 706 0 = I 706 0 := by rw [gs_no hs2 (by decide)]; exact n1
  have ho : ofl I I2 := ho1.tr ho2
  have hs : Same rdM I I2 := gr_rd (hs1.tr (gs_gr hs2))
  have key : ∀ (n c : Nat) (J : MI), c + n = 6 → (∀ k, k < c → J 706 0 (62 + k) = frO R s out k ∧ J 706 0 (68 + k) = s.1 k ∧ J 706 0 (74 + k) = 0) → (∀ k, c ≤ k → k < 6 → J 706 0 (62 + k) = s.1 k) → J 706 0 80 = s.2.2.2.1 → J 706 0 81 = s.2.2.2.2 → (∀ j, j < 62 ∨ 82 ≤ j → J 706 0 j = I 706 0 j) → (∀ j, J 724 0 j = I2 724 0 j) → ofl I J → Same rdM I J → XX (5 + 1) m_M_goesRound (fun r I' L' => r = none ∧ K I' L') 19 [vR 704 0, vD, vI (nI c)] [] J L := by
    intro n
    induction n with
    | zero =>
      intro c J hc hf _ j80 j81 hj _ hoJ hsJ
      have ec : c = 6 := by omega
      subst ec
      refine r_M_goesRound_19 ⟨fun _ => ⟨rfl, h _ ⟨fun k hk => ?_, ?_, ?_⟩ (fun j q => ?_) (fun j a b => ?_) (hsJ.ui ⟨by simp, rfl⟩)⟩, fun q => absurd (by decide) q⟩
      · obtain ⟨a1, a2, a3⟩ := hf k hk
        refine ⟨?_, ?_, ?_⟩
        · rw [ui_k (by omega)]; exact a1
        · rw [ui_k (by omega)]; exact a2
        · rw [ui_k (by omega)]; exact a3
      · rw [ui_k (by omega)]; exact j80
      · rw [ui_s, j81]; rfl
      · rw [ui_k (by omega)]; exact hj j q
      · rw [ui_r (by decide)]; exact hoJ j a b
    | succ n ih =>
      intro c J hc hf hg j80 j81 hj hlt hoJ hsJ
      have e68 : (68 : Int32) + nI c = nI (68 + c) := nI_add 68 c
      have e62 : (62 : Int32) + nI c = nI (62 + c) := nI_add 62 c
      have e74 : (74 : Int32) + nI c = nI (74 + c) := nI_add 74 c
      refine r_M_goesRound_19 ?_
      rw [e68, e62, e74, cl_n (by omega), cl_n (by omega), cl_n (by omega), nI_1]
      refine ⟨fun q => absurd q (nle_c (m := 6) (by omega) (by omega)), fun _ => ⟨vin (by omega) (by omega), vin (by omega) (by omega), ?_⟩⟩
      have e2 : (ui J 706 0 (68 + c) (J 706 0 (62 + c))) 706 0 2 = nI (rC R) := by rw [ui_k (by omega), hj 2 (by omega)]; exact hM.1
      rw [e2]
      have fin : ∀ x, x = frO R s out c → XX (5 + 1) m_M_goesRound (fun r I' L' => r = none ∧ K I' L') 19 [vR 704 0, vD, vI (nI (c + 1))] [] (ui (ui (ui J 706 0 (68 + c) (J 706 0 (62 + c))) 706 0 (62 + c) x) 706 0 (74 + c) 0) L := by
        intro x hx
        refine ih (c + 1) _ (by omega) (fun k hk => ?_) (fun k h1 h2 => ?_) ?_ ?_ (fun j q => ?_) (fun j => ?_) (fun j a b => ?_) (((hsJ.ui ⟨by simp, rfl⟩).ui ⟨by simp, rfl⟩).ui ⟨by simp, rfl⟩)
        · by_cases e : k = c
          · subst e
            refine ⟨?_, ?_, ?_⟩
            · rw [ui_k (by omega), ui_s]; exact hx
            · rw [ui_k (by omega), ui_k (by omega), ui_s]; exact hg k (Nat.le_refl _) (by omega)
            · rw [ui_s]
          · obtain ⟨a1, a2, a3⟩ := hf k (by omega)
            refine ⟨?_, ?_, ?_⟩
            · rw [ui_k (by omega), ui_k (by omega), ui_k (by omega)]; exact a1
            · rw [ui_k (by omega), ui_k (by omega), ui_k (by omega)]; exact a2
            · rw [ui_k (by omega), ui_k (by omega), ui_k (by omega)]; exact a3
        · rw [ui_k (by omega), ui_k (by omega), ui_k (by omega)]; exact hg k (by omega) h2
        · rw [ui_k (by omega), ui_k (by omega), ui_k (by omega)]; exact j80
        · rw [ui_k (by omega), ui_k (by omega), ui_k (by omega)]; exact j81
        · rw [ui_k (by omega), ui_k (by omega), ui_k (by omega)]; exact hj j q
        · rw [ui_r (by decide), ui_r (by decide), ui_r (by decide)]; exact hlt j
        · rw [ui_r (by decide), ui_r (by decide), ui_r (by decide)]; exact hoJ j a b
      refine ⟨fun q => ⟨vin (by omega) (by omega), vin (by omega) (by omega), fin 0 ?_⟩, fun q => c_M_lateAt (r := 1) (by omega) (by omega) (by omega) ⟨vin (by omega) (by omega), vin (by omega) (by omega), fin _ ?_⟩⟩
      · unfold frO
        rw [if_neg (fun z => absurd q (nI_ge z (by omega)))]
      · have hcR : c < rC R := by
          rcases Nat.lt_or_ge c (rC R) with z | z
          · exact z
          · exact absurd (nI_le z (by omega)) q
        rw [ui_r (by decide), hlt]
        exact (hG2.1 c hcR).1
  refine key 6 0 I2 (by omega) (fun k hk => by omega) (fun k _ hk => by rw [n2]; exact (hs0.1 k hk).1) (by rw [n2]; exact hs0.2.1) (by rw [n2]; exact hs0.2.2) (fun j _ => by rw [n2]) (fun j => rfl) ho hs
end MRnd2

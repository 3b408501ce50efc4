/-! the reference: yes and no; what it notes -/
theorem cmp_lt {x y : Int64} : lg_cmp x y < 0 ↔ x.toInt < y.toInt := by
  rcases cmp_cases x y with ⟨h, e⟩ | ⟨h, e⟩ | ⟨h, e⟩
  · rw [e]; exact ⟨fun _ => h, fun _ => by decide⟩
  · subst h; rw [e]; exact ⟨fun q => absurd q (by decide), fun q => by omega⟩
  · rw [e]; exact ⟨fun q => absurd q (by decide), fun q => by omega⟩
theorem cmp_gt {x y : Int64} : 0 < lg_cmp x y ↔ y.toInt < x.toInt := by
  rcases cmp_cases x y with ⟨h, e⟩ | ⟨h, e⟩ | ⟨h, e⟩
  · rw [e]; exact ⟨fun q => absurd q (by decide), fun q => by omega⟩
  · subst h; rw [e]; exact ⟨fun q => absurd q (by decide), fun q => by omega⟩
  · rw [e]; exact ⟨fun _ => h, fun _ => by decide⟩
theorem cmp_le {x y : Int64} : lg_cmp x y ≤ 0 ↔ x.toInt ≤ y.toInt := by
  rcases cmp_cases x y with ⟨h, e⟩ | ⟨h, e⟩ | ⟨h, e⟩
  · rw [e]; exact ⟨fun _ => by omega, fun _ => by decide⟩
  · subst h; rw [e]; exact ⟨fun _ => by omega, fun _ => by decide⟩
  · rw [e]; exact ⟨fun q => absurd q (by decide), fun q => by omega⟩
theorem ge_nI {a : Int32} (h : 0 ≤ a.toInt) : a = nI a.toInt.toNat := by
  obtain ⟨n, h1, h2⟩ := nI_of (x := a) (fun q => by have := Int32.lt_iff_toInt_lt.mp q; have h0 : (0 : Int32).toInt = 0 := rfl; omega)
  rw [h2, nI_toInt h1]; rfl
/-- twenty numbers of a stand -/
def s20 (g : Nat → Int32) (s : SA) : Prop := (∀ c, c < 6 → g c = s.1 c ∧ g (6 + c) = s.2.1 c ∧ g (12 + c) = s.2.2.1 c) ∧ g 18 = s.2.2.2.1 ∧ g 19 = s.2.2.2.2
theorem s20.cg {g g' : Nat → Int32} {s : SA} (h : s20 g s) (e : ∀ j, j < 20 → g' j = g j) : s20 g' s :=
  ⟨fun c hc => ⟨by rw [e _ (by omega)]; exact (h.1 c hc).1, by rw [e _ (by omega)]; exact (h.1 c hc).2.1, by rw [e _ (by omega)]; exact (h.1 c hc).2.2⟩, by rw [e _ (by omega)]; exact h.2.1, by rw [e _ (by omega)]; exact h.2.2⟩
theorem MSt_20 {f : Nat → Int32} {s : SA} : MSt f s ↔ s20 (fun j => f (62 + j)) s := by
  have e1 : ∀ c, 62 + (6 + c) = 68 + c := fun c => by omega
  have e2 : ∀ c, 62 + (12 + c) = 74 + c := fun c => by omega
  unfold MSt s20
  simp only [e1, e2]
/-- the reference's past -/
def MPa (f : Nat → Int32) (P : List SA) : Prop := P.length ≤ 10 ∧ f 82 = nI P.length ∧ ∀ k (hk : k < P.length), s20 (fun j => f (83 + 20 * k + j)) P[k]
section MNote
variable {d : Nat} {I : MI} {L : ML} {R : RD}
theorem c_M_within {a b c : Int64} {K : Int32 → MI → ML → Prop} (hd : 1 ≤ d) (h1 : b.toInt ≤ a.toInt → a.toInt ≤ c.toInt → K 1 I L) (h0 : ¬ (b.toInt ≤ a.toInt ∧ a.toInt ≤ c.toInt) → K 0 I L) : CI d m_M_within [vL a, vL b, vL c] I L K := by
  refine toCI (n := 0) hd (r_M_within_0 ⟨fun q => ⟨_, rfl, h0 (fun z => ?_)⟩, fun q => ⟨fun q2 => ⟨_, rfl, h0 (fun z => ?_)⟩, fun q2 => ⟨_, rfl, h1 ?_ ?_⟩⟩⟩)
  · have := cmp_lt.mp q; omega
  · have := cmp_gt.mp q2; omega
  · have := mt cmp_lt.mpr q; omega
  · have := mt cmp_gt.mpr q2; omega
theorem c_W_isCoach {a : Int32} {K : Int32 → MI → ML → Prop} (hd : 1 ≤ d) (hR : WF R) (hA : RoadA I 0 R) (h1 : 0 ≤ a.toInt → a.toInt < rC R → K 1 I L) (h0 : ¬ (0 ≤ a.toInt ∧ a.toInt < rC R) → K 0 I L) : CI d m_W_isCoach [vR 0 0, vI a] I L K := by
  have z0 : (0 : Int32).toInt = 0 := rfl
  have hC := hR.1
  refine toCI (n := 0) hd (r_W_isCoach_0 ?_)
  rw [hA.1]
  refine ⟨fun q => ⟨_, rfl, h0 (fun z => ?_)⟩, fun q => ⟨fun q2 => ⟨_, rfl, h0 (fun z => ?_)⟩, fun q2 => ⟨_, rfl, h1 ?_ ?_⟩⟩⟩
  · have := Int32.lt_iff_toInt_lt.mp q; omega
  · have := Int32.le_iff_toInt_le.mp q2; rw [nI_toInt (by omega)] at this; omega
  · have := Int32.le_iff_toInt_le.mp (Int32.not_lt.mp q); omega
  · have := Int32.lt_iff_toInt_lt.mp (Int32.not_le.mp q2); rw [nI_toInt (by omega)] at this; omega
theorem c_W_isRound {a : Int64} {K : Int32 → MI → ML → Prop} (hd : 1 ≤ d) (hR : WF R) (hA : RoadA I 0 R) (h1 : 0 ≤ a.toInt → a.toInt ≤ rW R → K 1 I L) (h0 : ¬ (0 ≤ a.toInt ∧ a.toInt ≤ rW R) → K 0 I L) : CI d m_W_isRound [vR 0 0, vL a] I L K := by
  have z0 : (0 : Int64).toInt = 0 := rfl
  have hW := hR.2.1
  have eW : (nI (rW R)).toInt64.toInt = rW R := by rw [Int32.toInt_toInt64, nI_toInt (by omega)]
  refine toCI (n := 0) hd (r_W_isRound_0 ?_)
  rw [hA.2.1]
  refine ⟨fun q => ⟨_, rfl, h0 (fun z => ?_)⟩, fun q => ⟨fun q2 => ⟨_, rfl, h0 (fun z => ?_)⟩, fun q2 => ⟨_, rfl, h1 ?_ ?_⟩⟩⟩
  · have := cmp_lt.mp q; omega
  · have := cmp_gt.mp q2; omega
  · have := mt cmp_lt.mpr q; omega
  · have := mt cmp_gt.mpr q2; omega
theorem c_M_isCoach {a : Int64} {K : Int32 → MI → ML → Prop} (hd : 2 ≤ d) (hR : WF R) (hM : MRo (I 706 0) R) (h1 : 0 ≤ a.toInt → a.toInt < rC R → K 1 I L) (h0 : ¬ (0 ≤ a.toInt ∧ a.toInt < rC R) → K 0 I L) : CI d m_M_isCoach [vR 704 0, vL a] I L K := by
  have z0 : (0 : Int64).toInt = 0 := rfl
  have hC := hR.1
  have o1 : (1 : Int32).toInt = 1 := rfl
  have eC : (nI (rC R) - (1 : Int32)).toInt64.toInt = rC R - 1 := by
    rw [Int32.toInt_toInt64, Jvm.Kit.i32_sub (by rw [nI_toInt (by omega)]; omega) (by rw [nI_toInt (by omega)]; omega), nI_toInt (by omega), o1]
  refine toCI (n := 1) hd (r_M_isCoach_0 ?_)
  rw [hM.1]
  refine c_M_within (by omega) (fun a1 a2 => ⟨Or.inr rfl, _, rfl, h1 (by omega) (by omega)⟩) (fun q => ⟨Or.inl rfl, _, rfl, h0 (fun z => q ⟨by omega, by omega⟩)⟩)
theorem c_M_isWait {a : Int32} {K : Int32 → MI → ML → Prop} (hd : 2 ≤ d) (hR : WF R) (hM : MRo (I 706 0) R) (h1 : 0 ≤ a.toInt → a.toInt < rW R → K 1 I L) (h0 : ¬ (0 ≤ a.toInt ∧ a.toInt < rW R) → K 0 I L) : CI d m_M_isWait [vR 704 0, vI a] I L K := by
  have z0 : (0 : Int64).toInt = 0 := rfl
  have hW := hR.2.1
  have o1 : (1 : Int32).toInt = 1 := rfl
  have ea := Int32.toInt_toInt64 a
  have eC : (nI (rW R) - (1 : Int32)).toInt64.toInt = rW R - 1 := by
    rw [Int32.toInt_toInt64, Jvm.Kit.i32_sub (by rw [nI_toInt (by omega)]; omega) (by rw [nI_toInt (by omega)]; omega), nI_toInt (by omega), o1]
  refine toCI (n := 1) hd (r_M_isWait_0 ?_)
  rw [hM.2.1]
  refine c_M_within (by omega) (fun a1 a2 => ⟨Or.inr rfl, _, rfl, h1 (by omega) (by omega)⟩) (fun q => ⟨Or.inl rfl, _, rfl, h0 (fun z => q ⟨by omega, by omega⟩)⟩)
theorem c_M_isRound {a : Int64} {K : Int32 → MI → ML → Prop} (hd : 2 ≤ d) (hR : WF R) (hM : MRo (I 706 0) R) (h1 : 0 ≤ a.toInt → a.toInt ≤ rW R → K 1 I L) (h0 : ¬ (0 ≤ a.toInt ∧ a.toInt ≤ rW R) → K 0 I L) : CI d m_M_isRound [vR 704 0, vL a] I L K := by
  have z0 : (0 : Int64).toInt = 0 := rfl
  have hW := hR.2.1
  have eW : (nI (rW R)).toInt64.toInt = rW R := by rw [Int32.toInt_toInt64, nI_toInt (by omega)]
  refine toCI (n := 1) hd (r_M_isRound_0 ?_)
  rw [hM.2.1]
  refine c_M_within (by omega) (fun a1 a2 => ⟨Or.inr rfl, _, rfl, h1 (by omega) (by omega)⟩) (fun q => ⟨Or.inl rfl, _, rfl, h0 (fun z => q ⟨by omega, by omega⟩)⟩)
theorem c_M_stores {K : MI → ML → Prop} (hd : 1 ≤ d) (h : ∀ I', (∀ j, j < 20 → I' 728 0 j = I 706 0 (62 + j)) → Same (fun r a => r = 728 ∧ a = 0) I I' → K I' L) : CV d m_M_stores [vR 704 0] I L K := by
  refine toCV (n := 0) hd (r_M_stores_0 ?_)
  have key : ∀ (n k : Nat) (J : MI), k + n = 20 → (∀ j, j < k → J 728 0 j = I 706 0 (62 + j)) → Same (fun r a => r = 728 ∧ a = 0) I J → XX (0 + 1) m_M_stores (fun r I' L' => r = none ∧ K I' L') 2 [vR 704 0, vI (nI k)] [] J L := by
    intro n
    induction n with
    | zero =>
      intro k J hk hf hs
      have e : k = 20 := by omega
      subst e
      exact r_M_stores_2 ⟨fun _ => ⟨rfl, h J hf hs⟩, fun q => absurd (by decide) q⟩
    | succ n ih =>
      intro k J hk hf hs
      have e62 : (62 : Int32) + nI k = nI (62 + k) := nI_add 62 k
      have n6 : J 706 0 = I 706 0 := hs 706 0 (fun q => absurd q.1 (by decide))
      refine r_M_stores_2 ?_
      rw [e62, cl_n (by omega), cl_n (by omega), nI_1]
      refine ⟨fun q => absurd q (nle_c (m := 20) (by omega) (by omega)), fun _ => ⟨vin (by omega) (by omega), vin (by omega) (by omega), ih (k + 1) _ (by omega) (fun j hj => ?_) (hs.ui ⟨rfl, rfl⟩)⟩⟩
      by_cases e : j = k
      · subst e; rw [ui_s, n6]
      · rw [ui_k e]; exact hf j (by omega)
  exact key 20 0 I (by omega) (fun j hj => by omega) Same.rf
theorem c_M_isAgain {K : MI → ML → Prop} (hd : 1 ≤ d) (h : ∀ I', (∀ j, j < 20 → I' 706 0 (62 + j) = I 728 0 j) → (∀ j, j < 62 ∨ 82 ≤ j → I' 706 0 j = I 706 0 j) → Same (fun r a => r = 706 ∧ a = 0) I I' → K I' L) : CV d m_M_isAgain [vR 704 0] I L K := by
  refine toCV (n := 0) hd (r_M_isAgain_0 ?_)
  have key : ∀ (n k : Nat) (J : MI), k + n = 20 → (∀ j, j < k → J 706 0 (62 + j) = I 728 0 j) → (∀ j, j < 62 ∨ 82 ≤ j → J 706 0 j = I 706 0 j) → Same (fun r a => r = 706 ∧ a = 0) I J → XX (0 + 1) m_M_isAgain (fun r I' L' => r = none ∧ K I' L') 2 [vR 704 0, vI (nI k)] [] J L := by
    intro n
    induction n with
    | zero =>
      intro k J hk hf ho hs
      have e : k = 20 := by omega
      subst e
      exact r_M_isAgain_2 ⟨fun _ => ⟨rfl, h J hf ho hs⟩, fun q => absurd (by decide) q⟩
    | succ n ih =>
      intro k J hk hf ho hs
      have e62 : (62 : Int32) + nI k = nI (62 + k) := nI_add 62 k
      have n6 : J 728 0 = I 728 0 := hs 728 0 (fun q => absurd q.1 (by decide))
      refine r_M_isAgain_2 ?_
      rw [e62, cl_n (by omega), cl_n (by omega), nI_1]
      refine ⟨fun q => absurd q (nle_c (m := 20) (by omega) (by omega)), fun _ => ⟨vin (by omega) (by omega), vin (by omega) (by omega), ih (k + 1) _ (by omega) (fun j hj => ?_) (fun j hj => ?_) (hs.ui ⟨rfl, rfl⟩)⟩⟩
      · by_cases e : j = k
        · subst e; rw [ui_s, n6]
        · rw [ui_k (by omega)]; exact hf j (by omega)
      · rw [ui_k (by omega)]; exact ho j hj
  exact key 20 0 I (by omega) (fun j hj => by omega) (fun j _ => rfl) Same.rf
theorem l_M_notes {Q : QT} {p : Nat} (hp : p ≤ 9) {I0 : MI} (h2 : I0 706 0 82 = nI p) (h : ∀ I', (∀ j, j < 20 → I' 706 0 (83 + 20 * p + j) = I0 728 0 j) → I' 706 0 82 = nI (p + 1) → (∀ j, j ≠ 82 → j < 83 + 20 * p ∨ 83 + 20 * p + 20 ≤ j → I' 706 0 j = I0 706 0 j) → Same (fun r a => r = 706 ∧ a = 0) I0 I' → Q none I' L) : XX (0 + 1) m_M_notes Q 58 [vR 704 0, vI 0] [] I0 L := by
  have key : ∀ (n k : Nat) (J : MI), k + n = 20 → (∀ j, j < k → J 706 0 (83 + 20 * p + j) = I0 728 0 j) → J 706 0 82 = nI p → (∀ j, j ≠ 82 → j < 83 + 20 * p ∨ 83 + 20 * p + 20 ≤ j → J 706 0 j = I0 706 0 j) → Same (fun r a => r = 706 ∧ a = 0) I0 J → XX (0 + 1) m_M_notes Q 58 [vR 704 0, vI (nI k)] [] J L := by
    intro n
    induction n with
    | zero =>
      intro k J hk hf h82 ho hs
      have e : k = 20 := by omega
      subst e
      refine r_M_notes_58 ⟨fun _ => h _ (fun j hj => ?_) ?_ (fun j h1 h2 => ?_) (hs.ui ⟨rfl, rfl⟩), fun q => absurd (by decide) q⟩
      · rw [ui_k (by omega)]; exact hf j hj
      · rw [ui_s, h82, nI_1]
      · rw [ui_k h1]; exact ho j h1 h2
    | succ n ih =>
      intro k J hk hf h82 ho hs
      have n6 : J 728 0 = I0 728 0 := hs 728 0 (fun q => absurd q.1 (by decide))
      refine r_M_notes_58 ?_
      have e83 : ((83 : Int32) + ((20 : Int32) * nI p)) + nI k = nI (83 + 20 * p + k) := by
        have a1 : (20 : Int32) * nI p = nI (20 * p) := pk_mul 20 p
        have a2 : (83 : Int32) + nI (20 * p) = nI (83 + 20 * p) := nI_add 83 _
        rw [a1, a2, nI_add]
      rw [h82, e83, cl_n (by omega), cl_n (by omega), nI_1, nI_1]
      refine ⟨fun q => absurd q (nle_c (m := 20) (by omega) (by omega)), fun _ => ⟨vin (by omega) (by omega), vin (by omega) (by omega), ih (k + 1) _ (by omega) (fun j hj => ?_) (by rw [ui_k (by omega)]; exact h82) (fun j h1 h2 => ?_) (hs.ui ⟨rfl, rfl⟩)⟩⟩
      · by_cases e : j = k
        · subst e; rw [ui_s, n6]
        · rw [ui_k (by omega)]; exact hf j (by omega)
      · rw [ui_k (by omega)]; exact ho j h1 h2
  exact key 20 0 I0 (by omega) (fun j hj => by omega) h2 (fun j _ _ => rfl) Same.rf
theorem c_M_notes {P : List SA} {s : SA} {K : MI → ML → Prop} (hd : 1 ≤ d) (hP : MPa (I 706 0) P) (hw : s20 (I 728 0) s) (h : ∀ I', MPa (I' 706 0) (pusL P s) → (∀ j, j < 82 ∨ 283 ≤ j → I' 706 0 j = I 706 0 j) → Same (fun r a => r = 706 ∧ a = 0) I I' → K I' L) : CV d m_M_notes [vR 704 0] I L K := by
  obtain ⟨hl, h82, hf⟩ := hP
  refine toCV (n := 0) hd (r_M_notes_0 ?_)
  rw [h82]
  refine ⟨fun q => ?_, fun q => ?_⟩
  · have h10 : P.length < 10 := by
      rcases Nat.lt_or_ge P.length 10 with z | z
      · exact z
      · exact absurd (show nI P.length = 10 by rw [show P.length = 10 by omega]; rfl) q
    have ep : pusL P s = P ++ [s] := by unfold pusL; rw [if_pos h10]
    have el : (pusL P s).length = P.length + 1 := by rw [ep, List.length_append]; rfl
    refine l_M_notes (p := P.length) (by omega) h82 (fun I' g1 g2 g3 hs => ⟨rfl, h I' ⟨by omega, by rw [el]; exact g2, fun k hk => ?_⟩ (fun j hj => g3 j (by omega) (by omega)) hs⟩)
    by_cases ek : k = P.length
    · subst ek
      have eg : (pusL P s)[P.length] = s := by simp only [ep]; simp
      rw [eg]
      exact hw.cg (fun j hj => g1 j hj)
    · have eg : (pusL P s)[k] = P[k]'(by omega) := by
        simp only [ep]
        rw [List.getElem_append_left (by omega)]
      rw [eg]
      exact (hf k (by omega)).cg (fun j hj => g3 _ (by omega) (by omega))
  · have h10 : P.length = 10 := (nI_eq (b := 10) (by omega) (by omega)).mp (Classical.not_not.mp q)
    have ep : pusL P s = P.tail ++ [s] := by unfold pusL; rw [if_neg (by omega)]
    have el : (pusL P s).length = 10 := by rw [ep, List.length_append, List.length_tail, h10]; rfl
    have key : ∀ (n k : Nat) (J : MI), k + n = 180 → (∀ j, j < k → J 706 0 (83 + j) = I 706 0 (103 + j)) → (∀ j, j < 83 ∨ 83 + k ≤ j → J 706 0 j = I 706 0 j) → Same (fun r a => r = 706 ∧ a = 0) I J → XX (0 + 1) m_M_notes (fun r I' L' => r = none ∧ K I' L') 14 [vR 704 0, vI (nI k)] [] J L := by
      intro n
      induction n with
      | zero =>
        intro k J hk hg ho hs
        have e : k = 180 := by omega
        subst e
        have n7 : J 728 0 = I 728 0 := hs 728 0 (fun q => absurd q.1 (by decide))
        refine r_M_notes_14 ⟨fun _ => ?_, fun q => absurd (by decide) q⟩
        have e9 : J 706 0 82 - (1 : Int32) = nI 9 := by rw [ho 82 (by omega), h82, h10]; decide
        rw [e9]
        refine l_M_notes (p := 9) (by omega) (by rw [ui_s]) (fun I' g1 g2 g3 hs' => ⟨rfl, h I' ⟨by omega, by rw [el]; exact g2, fun k hk => ?_⟩ (fun j hj => ?_) ((hs.ui ⟨rfl, rfl⟩).tr hs')⟩)
        · by_cases ek : k = 9
          · subst ek
            have eg : (pusL P s)[9] = s := by
              simp only [ep]
              rw [List.getElem_append_right (by rw [List.length_tail, h10]; decide)]
              simp
            rw [eg]
            refine hw.cg (fun j hj => ?_)
            rw [g1 j hj, ui_off (by decide), n7]
          · have eg : (pusL P s)[k] = P[k + 1]'(by omega) := by
              simp only [ep]
              rw [List.getElem_append_left (by rw [List.length_tail]; omega), List.getElem_tail]
            rw [eg]
            refine (hf (k + 1) (by omega)).cg (fun j hj => ?_)
            show I' 706 0 (83 + 20 * k + j) = I 706 0 (83 + 20 * (k + 1) + j)
            rw [g3 _ (by omega) (by omega), ui_k (by omega), show 83 + 20 * k + j = 83 + (20 * k + j) by omega, hg _ (by omega)]
            congr 1; omega
        · rw [g3 j (by omega) (by omega), ui_k (by omega)]
          exact ho j (by omega)
      | succ n ih =>
        intro k J hk hg ho hs
        have e103 : (103 : Int32) + nI k = nI (103 + k) := nI_add 103 k
        have e83 : (83 : Int32) + nI k = nI (83 + k) := nI_add 83 k
        refine r_M_notes_14 ?_
        rw [e103, e83, cl_n (by omega), cl_n (by omega), nI_1]
        refine ⟨fun q => absurd q (nle_c (m := 180) (by omega) (by omega)), fun _ => ⟨vin (by omega) (by omega), vin (by omega) (by omega), ih (k + 1) _ (by omega) (fun j hj => ?_) (fun j hj => ?_) (hs.ui ⟨rfl, rfl⟩)⟩⟩
        · by_cases e : j = k
          · subst e; rw [ui_s]; exact ho _ (by omega)
          · rw [ui_k (by omega)]; exact hg j (by omega)
        · rw [ui_k (by omega)]; exact ho j (by omega)
    exact key 180 0 I (by omega) (fun j hj => by omega) (fun j _ => rfl) Same.rf
end MNote

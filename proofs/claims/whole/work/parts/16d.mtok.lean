/-! TOKENS of the reference -/
def kst (j : Nat) : Nat := [1, 6, 13, 17, 23, 26, 35, 40, 46, 50, 56, 59, 64, 69, 73, 78, 81, 86, 91, 95, 98, 102].getD j 0
theorem ks_tab : (decide (sLo 22 = 102) && (List.range 21).all fun j => decide (kst (j + 1) = kst j + sLo (kwC j) + 1) && decide (kst (j + 1) ≤ 102) && decide (sBy 22 (kst j + sLo (kwC j)) = 32) && (List.range (sLo (kwC j))).all fun i => decide (sBy 22 (kst j + i) = sBy (kwC j) i) && decide (¬ sBy (kwC j) i = 32)) = true := by decide +kernel
theorem ks_ok {j : Nat} (hj : j < 21) : kst (j + 1) = kst j + sLo (kwC j) + 1 ∧ kst (j + 1) ≤ 102 ∧ sBy 22 (kst j + sLo (kwC j)) = 32 ∧ ∀ i, i < sLo (kwC j) → sBy 22 (kst j + i) = sBy (kwC j) i ∧ ¬ sBy (kwC j) i = 32 := by
  have h := ks_tab
  rw [Bool.and_eq_true] at h
  have h := List.all_eq_true.mp h.2 j (List.mem_range.mpr hj)
  simp only [Bool.and_eq_true, decide_eq_true_eq] at h
  refine ⟨h.1.1.1, h.1.1.2, h.1.2, fun i hi => ?_⟩
  have h2 := List.all_eq_true.mp h.2 i (List.mem_range.mpr hi)
  simp only [Bool.and_eq_true, decide_eq_true_eq] at h2
  exact h2
theorem s22 : sLo 22 = 102 := by decide
def TkM (I : MI) (T : Nat × Nat × Nat × Nat) : Prop := I 704 0 6 = nI T.2.1 ∧ I 704 0 7 = nI T.2.2.1 ∧ I 704 0 9 = nI T.1 ∧ (T.1 = 23 → I 704 0 10 = nI T.2.2.2)
def TxM (I : MI) (B : Nat → Nat) (n : Nat) : Prop := I 704 0 8 = nI n ∧ n ≤ 900 ∧ (∀ i, i < n → I 708 0 i = nI (B i)) ∧ ∀ i, B i < 256
def frN (I I' : MI) : Prop := (∀ r a, ¬ (r = 704 ∧ a = 0) → I' r a = I r a) ∧ ∀ j, j < 6 ∨ 12 < j ∨ j = 8 → I' 704 0 j = I 704 0 j
/-- only the reading's own places -/
def frW (I I' : MI) : Prop := (∀ r a, ¬ (r = 704 ∧ a = 0) → I' r a = I r a) ∧ ∀ j, j < 6 ∨ 10 < j ∨ j = 8 → I' 704 0 j = I 704 0 j
theorem frN.rf {I : MI} : frN I I := ⟨fun _ _ _ => rfl, fun _ _ => rfl⟩
theorem frN.tr {I I' I'' : MI} (h : frN I I') (h' : frN I' I'') : frN I I'' := ⟨fun r a q => (h'.1 r a q).trans (h.1 r a q), fun j q => (h'.2 j q).trans (h.2 j q)⟩
theorem frW.rf {I : MI} : frW I I := ⟨fun _ _ _ => rfl, fun _ _ => rfl⟩
theorem frW.ui {I I' : MI} {j : Nat} {x : Int32} (h : frW I I') (hj : 6 ≤ j ∧ j ≤ 10 ∧ j ≠ 8) : frW I (ui I' 704 0 j x) := ⟨fun r a q => by rw [ui_off q]; exact h.1 r a q, fun i hi => by rw [ui_k (by omega)]; exact h.2 i hi⟩
theorem frW_N {I I' : MI} (h : frW I I') : frN I I' := ⟨h.1, fun j hj => h.2 j (by omega)⟩
theorem TxM_fr {I I' : MI} {B : Nat → Nat} {n : Nat} (h : TxM I B n) (hF : frN I I') : TxM I' B n := ⟨by rw [hF.2 8 (by omega)]; exact h.1, h.2.1, fun i hi => by rw [hF.1 708 0 (by omega)]; exact h.2.2.1 i hi, h.2.2.2⟩
section TokM
variable {d : Nat} {I : MI} {L : ML} {B : Nat → Nat} {n : Nat}
theorem c_M_see {k : Nat} {K : Int32 → MI → ML → Prop} (hd : 1 ≤ d) (hT : TxM I B n) (hk : k ≤ 2000) (h1 : k < n → K (nI (B k)) I L) (h0 : ¬ k < n → K (-1) I L) : CI d m_M_see [vR 704 0, vI (nI k)] I L K := by
  have hn := hT.2.1
  refine toCI (n := 0) hd (r_M_see_0 ?_)
  rw [hT.1]
  refine ⟨fun q => ⟨_, rfl, h0 ?_⟩, fun q => ?_⟩
  · have := (nI_leI (by omega) (by omega)).mp q; omega
  · have : k < n := by
      rcases Nat.lt_or_ge k n with z | z
      · exact z
      · exact absurd (nI_le z (by omega)) q
    rw [cl_n (by omega), hT.2.2.1 k this]
    exact ⟨vin (by omega) (by omega), _, rfl, h1 this⟩
theorem c_M_isSmall {b : Nat} {K : Int32 → MI → ML → Prop} (hd : 1 ≤ d) (hb : b < 256) (h1 : 97 ≤ b ∧ b ≤ 122 → K 1 I L) (h0 : ¬ (97 ≤ b ∧ b ≤ 122) → K 0 I L) : CI d m_M_isSmall [vI (nI b)] I L K := by
  refine toCI (n := 0) hd (r_M_isSmall_0 ⟨fun q => ⟨_, rfl, h0 ?_⟩, fun q => ⟨fun q2 => ⟨_, rfl, h0 ?_⟩, fun q2 => ⟨_, rfl, h1 ?_⟩⟩⟩)
  · have := (nI_ltI (a := b) (b := 97) (by omega) (by omega)).mp q; omega
  · have := (nI_ltI (a := 122) (b := b) (by omega) (by omega)).mp q2; omega
  · have a1 : ¬ b < 97 := fun z => q (nI_lt (b := 97) z (by omega))
    have a2 : ¬ 122 < b := fun z => q2 (nI_lt (a := 122) z (by omega))
    omega
theorem c_M_isDigit {b : Nat} {K : Int32 → MI → ML → Prop} (hd : 1 ≤ d) (hb : b < 256) (h1 : 48 ≤ b ∧ b ≤ 57 → K 1 I L) (h0 : ¬ (48 ≤ b ∧ b ≤ 57) → K 0 I L) : CI d m_M_isDigit [vI (nI b)] I L K := by
  refine toCI (n := 0) hd (r_M_isDigit_0 ⟨fun q => ⟨_, rfl, h0 ?_⟩, fun q => ⟨fun q2 => ⟨_, rfl, h0 ?_⟩, fun q2 => ⟨_, rfl, h1 ?_⟩⟩⟩)
  · have := (nI_ltI (a := b) (b := 48) (by omega) (by omega)).mp q; omega
  · have := (nI_ltI (a := 57) (b := b) (by omega) (by omega)).mp q2; omega
  · have a1 : ¬ b < 48 := fun z => q (nI_lt (b := 48) z (by omega))
    have a2 : ¬ 57 < b := fun z => q2 (nI_lt (a := 57) z (by omega))
    omega
theorem c_M_isSmallN {K : Int32 → MI → ML → Prop} (hd : 1 ≤ d) (h : K 0 I L) : CI d m_M_isSmall [vI (-1)] I L K := toCI (n := 0) hd (r_M_isSmall_0 ⟨fun _ => ⟨_, rfl, h⟩, fun q => absurd (by decide) q⟩)
theorem c_M_isDigitN {K : Int32 → MI → ML → Prop} (hd : 1 ≤ d) (h : K 0 I L) : CI d m_M_isDigit [vI (-1)] I L K := toCI (n := 0) hd (r_M_isDigit_0 ⟨fun _ => ⟨_, rfl, h⟩, fun q => absurd (by decide) q⟩)
theorem c_M_keyAt {s e : Nat} {K : Int32 → MI → ML → Prop} (hd : 5 ≤ d) (hT : TxM I B n) (hs : I 704 0 6 = nI s) (he : I 704 0 7 = nI e) (hse : s ≤ e) (hen : e ≤ n) (h : K (nI (kyF B s e 21 0)) I L) : CI d m_M_keyAt [vR 704 0] I L K := by
  have hn := hT.2.1
  have hmt : ∀ j, mtB B s e j = true ↔ (e - s = sLo (kwC j) ∧ ∀ i, i < sLo (kwC j) → nI (B (s + i)) = sBy (kwC j) i) := fun j => by
    unfold mtB
    rw [Bool.and_eq_true, decide_eq_true_eq, List.all_eq_true]
    exact ⟨fun z => ⟨z.1, fun i hi => of_decide_eq_true (z.2 i (List.mem_range.mpr hi))⟩, fun z => ⟨z.1, fun i hi => decide_eq_true (z.2 i (List.mem_range.mp hi))⟩⟩
  refine toCI (n := 4) hd (r_M_keyAt_0 ?_)
  have key : ∀ (f j : Nat), j + f = 21 → kyF B s e f j = kyF B s e 21 0 → XX (4 + 1) m_M_keyAt (fun r I' L' => ∃ x, r = some (vI x) ∧ K x I' L') 4 [vR 704 0, vI (nI j), vI (nI (kst j)), vD] [] I L := by
    intro f
    induction f with
    | zero =>
      intro j hj hk
      have ej : j = 21 := by omega
      subst ej
      refine r_M_keyAt_4 (c_Str_length (by omega) (by omega) ⟨fun _ => ⟨_, rfl, ?_⟩, fun q => absurd (by rw [s22]; decide) q⟩)
      rw [← hk] at h
      exact h
    | succ f ih =>
      intro j hj hk
      have he2 : kyF B s e (f + 1) j = if mtB B s e j = true then j else kyF B s e f (j + 1) := rfl
      rw [he2] at hk
      obtain ⟨k1, k2, k3, k4⟩ := ks_ok (show j < 21 by omega)
      have hsl := s_len (j := kwC j) (by have := kw_lt (show j < 21 by omega); omega)
      refine r_M_keyAt_4 (c_Str_length (by omega) (by omega) ⟨fun q => absurd q (by rw [s22]; exact nI_ge (show kst j < 102 by omega) (by omega)), fun _ => ?_⟩)
      have skip : ¬ mtB B s e j = true → ∀ (g i : Nat), i + g = sLo (kwC j) → XX (4 + 1) m_M_keyAt (fun r I' L' => ∃ x, r = some (vI x) ∧ K x I' L') 97 [vR 704 0, vI (nI j), vI (nI (kst j + i)), vD] [] I L := by
        intro hno g
        rw [if_neg hno] at hk
        induction g with
        | zero =>
          intro i hi
          refine r_M_keyAt_97 (c_Str_charAt (by omega) (by omega) (by rw [s22]; omega) ?_)
          rw [show kst j + i = kst j + sLo (kwC j) by omega, k3, nI_1, nI_1, ← k1]
          exact ⟨fun _ => ih (j + 1) (by omega) hk, fun q => absurd rfl q⟩
        | succ g ihg =>
          intro i hi
          obtain ⟨c1, c2⟩ := k4 i (by omega)
          refine r_M_keyAt_97 (c_Str_charAt (by omega) (by omega) (by rw [s22]; omega) ?_)
          rw [c1, nI_1 (a := kst j + i)]
          exact ⟨fun q => absurd q c2, fun _ => ihg (i + 1) (by omega)⟩
      have cmp : ∀ (g i : Nat), i + g = sLo (kwC j) → (∀ i', i' < i → s + i' < e ∧ nI (B (s + i')) = sBy (kwC j) i') → XX (4 + 1) m_M_keyAt (fun r I' L' => ∃ x, r = some (vI x) ∧ K x I' L') 15 [vR 704 0, vI (nI j), vI (nI (kst j)), vI (nI i)] [] I L := by
        intro g
        induction g with
        | zero =>
          intro i hi hall
          have ei : i = sLo (kwC j) := by omega
          have hle : s + i ≤ e := by
            rcases Nat.eq_zero_or_pos i with z | z
            · omega
            · have := (hall (i - 1) (by omega)).1; omega
          refine r_M_keyAt_15 ?_
          rw [nI_add]
          refine c_Str_charAt (by omega) (by omega) (by rw [s22]; omega) ?_
          rw [show kst j + i = kst j + sLo (kwC j) by omega, k3]
          refine ⟨fun _ => c_Str_charAt (by omega) (by omega) (by rw [s22]; omega) ?_, fun q => absurd rfl q⟩
          rw [k3, hs, he, nI_add]
          refine ⟨fun q => absurd rfl q, fun _ => ⟨fun q => ?_, fun q => ⟨_, rfl, ?_⟩⟩⟩
          · have hno : ¬ mtB B s e j = true := fun z => q (by rw [show s + i = e by have := ((hmt j).mp z).1; omega])
            exact skip hno (sLo (kwC j)) 0 (by omega)
          · have hq := (nI_eq (by omega) (by omega)).mp (Classical.not_not.mp q)
            have hy : mtB B s e j = true := (hmt j).mpr ⟨by omega, fun i' hi' => (hall i' (by omega)).2⟩
            rw [if_pos hy] at hk
            rw [← hk] at h
            exact h
        | succ g ihg =>
          intro i hi hall
          obtain ⟨c1, c2⟩ := k4 i (by omega)
          have hle : s + i ≤ e := by
            rcases Nat.eq_zero_or_pos i with z | z
            · omega
            · have := (hall (i - 1) (by omega)).1; omega
          refine r_M_keyAt_15 ?_
          rw [nI_add]
          refine c_Str_charAt (by omega) (by omega) (by rw [s22]; omega) ?_
          rw [c1, hs, he, nI_add]
          refine ⟨fun q => absurd q c2, fun _ => ⟨fun q => c_Str_charAt (by omega) (by omega) (by rw [s22]; omega) ?_, fun q => ?_⟩⟩
          · have hq := (nI_leI (by omega) (by omega)).mp q
            rw [c1]
            refine ⟨fun _ => skip (fun z => ?_) (sLo (kwC j)) 0 (by omega), fun q => absurd c2 q⟩
            have := ((hmt j).mp z).1; omega
          · have hq : s + i < e := by
              rcases Nat.lt_or_ge (s + i) e with z | z
              · exact z
              · exact absurd (nI_le z (by omega)) q
            rw [cl_n (by omega), hT.2.2.1 (s + i) (by omega)]
            refine ⟨vin (by omega) (by omega), c_Str_charAt (by omega) (by omega) (by rw [s22]; omega) ?_⟩
            rw [c1]
            refine ⟨fun q => c_Str_charAt (by omega) (by omega) (by rw [s22]; omega) ?_, fun q => ?_⟩
            · rw [c1]
              exact ⟨fun _ => skip (fun z => q (((hmt j).mp z).2 i (by omega))) (sLo (kwC j)) 0 (by omega), fun q => absurd c2 q⟩
            · rw [nI_1]
              refine ihg (i + 1) (by omega) (fun i' hi' => ?_)
              by_cases y : i' = i
              · rw [y]; exact ⟨hq, Classical.not_not.mp q⟩
              · exact hall i' (by omega)
      exact cmp (sLo (kwC j)) 0 (by omega) (fun i' hi' => by omega)
  exact key 21 0 (by omega) rfl
theorem x_M_next {Q : QT} {p : Nat} (hd : 5 ≤ d) (hT : TxM I B n) (hp : I 704 0 7 = nI p) (hpn : p ≤ n) (h : ∀ I', TkM I' (tkn B n p) → frW I I' → Q none I' L) : XX (d + 1) m_M_next Q 0 [vR 704 0, vD] [] I L := by
  have hn := hT.2.1
  unfold tkn at h
  have lets : ∀ (f q s : Nat) (J : MI), q + f = n → s ≤ q → tkL B n f q = tkL B n (n - s) s → tknS B n s = (kyF B s (tkL B n (n - s) s) 21 0, s, tkL B n (n - s) s, 0) → tkW B n (n - p) p = s → J 704 0 6 = nI s → J 704 0 7 = nI q → frW I J → XX (d + 1) m_M_next Q 89 [vR 704 0, vD] [] J L := by
    have fin : ∀ (q s : Nat) (J : MI), s ≤ q → q ≤ n → q = tkL B n (n - s) s → tknS B n s = (kyF B s (tkL B n (n - s) s) 21 0, s, tkL B n (n - s) s, 0) → tkW B n (n - p) p = s → J 704 0 6 = nI s → J 704 0 7 = nI q → frW I J → CI d m_M_keyAt [vR 704 0] J L (fun x55 I53 L54 => Q none (ui I53 704 0 9 x55) L54) := by
      intro q s J hs hq he hk hw j6 j7 hF
      refine c_M_keyAt (by omega) (TxM_fr hT (frW_N hF)) j6 j7 hs hq (h _ ?_ (hF.ui (by omega)))
      rw [hw, hk, ← he]
      have kl := (kyF_le (B := B) (s := s) (e := q) 21 0 (by omega)).1
      exact ⟨by rw [ui_k (by decide)]; exact j6, by rw [ui_k (by decide)]; exact j7, by rw [ui_s], fun z => by have z : kyF B s q 21 0 = 23 := z; omega⟩
    intro f
    induction f with
    | zero =>
      intro q s J hq hs he hk hw j6 j7 hF
      refine r_M_next_89 ?_
      rw [j7]
      exact c_M_see (by omega) (TxM_fr hT (frW_N hF)) (by omega) (fun y => by omega) (fun _ => c_M_isSmallN (by omega) ⟨fun _ => fin q s J hs (by omega) he hk hw j6 j7 hF, fun z => absurd rfl z⟩)
    | succ f ih =>
      intro q s J hq hs he hk hw j6 j7 hF
      simp only [tkL] at he
      refine r_M_next_89 ?_
      rw [j7]
      refine c_M_see (by omega) (TxM_fr hT (frW_N hF)) (by omega) (fun hqn => c_M_isSmall (by omega) (hT.2.2.2 q) (fun y => ⟨fun z => absurd z (by decide), fun _ => ?_⟩) (fun y => ⟨fun _ => ?_, fun z => absurd rfl z⟩)) (fun y => absurd (show q < n by omega) y)
      · rw [if_pos ⟨hqn, y⟩] at he
        rw [j7, nI_1]
        exact ih (q + 1) s _ (by omega) (by omega) he hk hw (by rw [ui_k (by decide)]; exact j6) (by rw [ui_s]) (hF.ui (by omega))
      · rw [if_neg (fun z => y z.2)] at he
        exact fin q s J hs (by omega) he hk hw j6 j7 hF
  have digs : ∀ (f q s : Nat) (J : MI), q + f = n → s ≤ q → tkD B n f q = tkD B n (n - s) s → tknS B n s = (if 3 < tkD B n (n - s) s - s then 25 else 23, s, tkD B n (n - s) s, nmB B s (tkD B n (n - s) s - s)) → tkW B n (n - p) p = s → J 704 0 6 = nI s → J 704 0 10 = nI (nmB B s (q - s)) → J 704 0 7 = nI q → frW I J → XX (d + 1) m_M_next Q 146 [vR 704 0, vD] [] J L := by
    have fin : ∀ (q s : Nat) (J : MI), s ≤ q → q ≤ n → q = tkD B n (n - s) s → tknS B n s = (if 3 < tkD B n (n - s) s - s then 25 else 23, s, tkD B n (n - s) s, nmB B s (tkD B n (n - s) s - s)) → tkW B n (n - p) p = s → J 704 0 6 = nI s → J 704 0 10 = nI (nmB B s (q - s)) → J 704 0 7 = nI q → frW I J → (((J 704 0 7) - (J 704 0 6) ≤ 3 → (Q none (ui J 704 0 9 23) L)) ∧ (¬ ((J 704 0 7) - (J 704 0 6) ≤ 3) → (Q none (ui J 704 0 9 25) L))) := by
      intro q s J hs hqn he hk hw j6 j10 j7 hF
      rw [j7, j6, nI_sub hs]
      refine ⟨fun z => h _ ?_ (hF.ui (by omega)), fun z => h _ ?_ (hF.ui (by omega))⟩
      · have hz := (nI_leI (a := q - s) (b := 3) (by omega) (by omega)).mp z
        rw [hw, hk, ← he, if_neg (by omega)]
        exact ⟨by rw [ui_k (by decide)]; exact j6, by rw [ui_k (by decide)]; exact j7, by rw [ui_s]; rfl, fun _ => by rw [ui_k (by decide)]; exact j10⟩
      · have hz : ¬ q - s ≤ 3 := fun y => z (nI_le (b := 3) y (by omega))
        rw [hw, hk, ← he, if_pos (by omega)]
        exact ⟨by rw [ui_k (by decide)]; exact j6, by rw [ui_k (by decide)]; exact j7, by rw [ui_s]; rfl, fun z => by have z : 25 = 23 := z; omega⟩
    intro f
    induction f with
    | zero =>
      intro q s J hq hs he hk hw j6 j10 j7 hF
      refine r_M_next_146 ?_
      rw [j7]
      exact c_M_see (by omega) (TxM_fr hT (frW_N hF)) (by omega) (fun y => by omega) (fun _ => c_M_isDigitN (by omega) ⟨fun _ => fin q s J hs (by omega) he hk hw j6 j10 j7 hF, fun z => absurd rfl z⟩)
    | succ f ih =>
      intro q s J hq hs he hk hw j6 j10 j7 hF
      have hTJ := TxM_fr hT (frW_N hF)
      simp only [tkD] at he
      refine r_M_next_146 ?_
      rw [j7]
      refine c_M_see (by omega) hTJ (by omega) (fun hqn => c_M_isDigit (by omega) (hT.2.2.2 q) (fun y => ⟨fun z => absurd z (by decide), fun _ => ?_⟩) (fun y => ⟨fun _ => ?_, fun z => absurd rfl z⟩)) (fun y => absurd (show q < n by omega) y)
      · rw [if_pos ⟨hqn, y⟩] at he
        have hm : nmB B s (q + 1 - s) = if q - s < 3 then nmB B s (q - s) * 10 + (B q - 48) else nmB B s (q - s) := by
          rw [show q + 1 - s = (q - s) + 1 by omega]
          show (if q - s < 3 then nmB B s (q - s) * 10 + (B (s + (q - s)) - 48) else nmB B s (q - s)) = _
          rw [show s + (q - s) = q by omega]
        have bl := hT.2.2.2 q
        have nl := nmB_lt (B := B) (s := s) (fun m => hT.2.2.2 _) (q - s)
        rw [j7, j6, j10, nI_sub hs]
        refine ⟨fun z => ?_, fun z => c_M_see (by omega) hTJ (by omega) (fun _ => ?_) (fun y => absurd (show q < n by omega) y)⟩
        · have hz := (nI_leI (a := 3) (b := q - s) (by omega) (by omega)).mp z
          rw [if_neg (by omega)] at hm
          exact ih (q + 1) s _ (by omega) (by omega) he hk hw (by rw [ui_k (by decide)]; exact j6) (by rw [ui_k (by decide), hm]; exact j10) (by rw [ui_s, nI_1]) (hF.ui (by omega))
        · have hz : ¬ 3 ≤ q - s := fun y => z (nI_le (a := 3) y (by omega))
          rw [if_pos (by omega)] at hm
          have ev : ((10 : Int32) * nI (nmB B s (q - s)) + nI (B q)) - (48 : Int32) = nI (nmB B s (q - s) * 10 + (B q - 48)) := by
            have e1 : (10 : Int32) * nI (nmB B s (q - s)) = nI (10 * nmB B s (q - s)) := pk_mul 10 _
            have e2 : nI (10 * nmB B s (q - s) + B q) - (48 : Int32) = nI (10 * nmB B s (q - s) + B q - 48) := nI_sub (b := 48) (by omega)
            rw [e1, nI_add, e2]; congr 1; omega
          rw [ev]
          exact ih (q + 1) s _ (by omega) (by omega) he hk hw (by rw [ui_k (by decide), ui_k (by decide)]; exact j6) (by rw [ui_k (by decide), ui_s, hm]) (by rw [ui_s, ui_k (by decide), j7, nI_1]) ((hF.ui (by omega)).ui (by omega))
      · rw [if_neg (fun z => y z.2)] at he
        exact fin q s J hs (by omega) he hk hw j6 j10 j7 hF
  have sigs : ∀ (f k s : Nat) (J : MI), k + f = 12 → s < n → tknS B n s = (if sgF (B s) 12 0 < 12 then (30 + sgF (B s) 12 0, s, s + 1, 0) else (25, s, s + 1, 0)) → tkW B n (n - p) p = s → J 704 0 6 = nI s → J 704 0 7 = nI (s + 1) → J 704 0 9 = (if sgF (B s) 12 0 < k then nI (30 + sgF (B s) 12 0) else 25) → frW I J → XX (d + 1) m_M_next Q 254 [vR 704 0, vI (nI k)] [] J L := by
    have l0 : sLo 0 = 12 := by decide
    intro f
    induction f with
    | zero =>
      intro k s J hk hsn hkk hw j6 j7 j9 hF
      have ek : k = 12 := by omega
      subst ek
      refine r_M_next_254 (c_Str_length (by omega) (by omega) ⟨fun _ => h J ?_ hF, fun q => absurd (by rw [l0]; decide) q⟩)
      rw [hw, hkk]
      by_cases y : sgF (B s) 12 0 < 12
      · rw [if_pos y] at j9 ⊢
        exact ⟨j6, j7, j9, fun z => by have z : 30 + sgF (B s) 12 0 = 23 := z; omega⟩
      · rw [if_neg y] at j9 ⊢
        exact ⟨j6, j7, j9, fun z => by have z : 25 = 23 := z; omega⟩
    | succ f ih =>
      intro k s J hk hsn hkk hw j6 j7 j9 hF
      have sg := sgF_le (b := B s) 12 0 (by omega)
      refine r_M_next_254 (c_Str_length (by omega) (by omega) ⟨fun q => absurd q (by rw [l0]; exact nle_c (m := 12) (by omega) (by omega)), fun _ => ?_⟩)
      rw [j6]
      refine c_M_see (by omega) (TxM_fr hT (frW_N hF)) (by omega) (fun _ => c_Str_charAt (by omega) (by omega) (by rw [l0]; omega) ?_) (fun y => absurd hsn y)
      rw [nI_1]
      have same : ∀ i, i < 12 → sBy 0 i = nI (B s) → sgF (B s) 12 0 = i := by
        intro i hi hb
        have fst : ∀ g m, m + g = 12 → m ≤ i → sgF (B s) g m ≤ i := by
          intro g
          induction g with
          | zero => intro m h1 h2; omega
          | succ g ihg =>
            intro m h1 h2
            have e2 : sgF (B s) (g + 1) m = if sBy 0 m = nI (B s) then m else sgF (B s) g (m + 1) := rfl
            rw [e2]
            by_cases y : sBy 0 m = nI (B s)
            · rw [if_pos y]; exact h2
            · rw [if_neg y]
              have : m ≠ i := fun z => y (z ▸ hb)
              exact ihg (m + 1) (by omega) (by omega)
        have hle := fst 12 0 (by omega) (by omega)
        have h2 := sg.2.2 (by omega)
        have tb := of_decide_eq_true (List.all_eq_true.mp (List.all_eq_true.mp sg_tab (sgF (B s) 12 0) (List.mem_range.mpr (by omega))) i (List.mem_range.mpr hi))
        exact tb.mp (h2.trans hb.symm)
      refine ⟨fun q => ih (k + 1) s J (by omega) hsn hkk hw j6 j7 ?_ hF, fun q => ih (k + 1) s _ (by omega) hsn hkk hw (by rw [ui_k (by decide)]; exact j6) (by rw [ui_k (by decide)]; exact j7) ?_ (hF.ui (by omega))⟩
      · rw [j9]
        have : sgF (B s) 12 0 ≠ k := fun z => q (by have := sg.2.2 (by omega); rw [z] at this; exact this.symm)
        by_cases y : sgF (B s) 12 0 < k
        · rw [if_pos y, if_pos (by omega)]
        · rw [if_neg y, if_neg (by omega)]
      · have := same k (by omega) (Classical.not_not.mp q).symm
        rw [ui_s, if_pos (by omega), this]
        exact nI_add 30 k
  have A : ∀ (J : MI) (s : Nat), J 704 0 6 = nI s → s ≤ n → tkW B n (n - p) p = s → frW I J → ((((ui J 704 0 7 (J 704 0 6)) 704 0 6) < ((ui J 704 0 7 (J 704 0 6)) 704 0 8) → (CI d m_M_see [vR 704 0, vI ((ui J 704 0 7 (J 704 0 6)) 704 0 6)] (ui J 704 0 7 (J 704 0 6)) L (fun x9 I7 L8 => CI d m_M_isSmall [vI x9] I7 L8 (fun x12 I10 L11 => (x12 = 0 → (CI d m_M_see [vR 704 0, vI (I10 704 0 6)] I10 L11 (fun x15 I13 L14 => CI d m_M_isDigit [vI x15] I13 L14 (fun x18 I16 L17 => (x18 = 0 → (XX (d + 1) m_M_next Q 254 [vR 704 0, vI 0] [] (ui (ui I16 704 0 7 ((I16 704 0 7) + (1 : Int32))) 704 0 9 25) L17)) ∧ (¬ (x18 = 0) → (XX (d + 1) m_M_next Q 146 [vR 704 0, vD] [] (ui I16 704 0 10 0) L17)))))) ∧ (¬ (x12 = 0) → (XX (d + 1) m_M_next Q 89 [vR 704 0, vD] [] I10 L11)))))) ∧ (¬ (((ui J 704 0 7 (J 704 0 6)) 704 0 6) < ((ui J 704 0 7 (J 704 0 6)) 704 0 8)) → (Q none (ui (ui J 704 0 7 (J 704 0 6)) 704 0 9 24) L))) := by
    intro J s j6 hsn hw hF
    have hF3 : frW I (ui J 704 0 7 (J 704 0 6)) := hF.ui (by omega)
    have j6' : ui J 704 0 7 (J 704 0 6) 704 0 6 = nI s := by rw [ui_k (by decide), j6]
    have j7' : ui J 704 0 7 (J 704 0 6) 704 0 7 = nI s := by rw [ui_s, j6]
    generalize ui J 704 0 7 (J 704 0 6) = J3 at *
    have hT3 := TxM_fr hT (frW_N hF3)
    rw [j6', hT3.1]
    refine ⟨fun z => ?_, fun z => h _ ?_ (hF3.ui (by omega))⟩
    · have hs := (nI_ltI (by omega) (by omega)).mp z
      have hbs := hT.2.2.2 s
      refine c_M_see (by omega) hT3 (by omega) (fun _ => c_M_isSmall (by omega) hbs (fun y => ⟨fun z => absurd z (by decide), fun _ => ?_⟩) (fun y1 => ⟨fun _ => ?_, fun z => absurd rfl z⟩)) (fun y => absurd hs y)
      · exact lets (n - s) s s J3 (by omega) (Nat.le_refl _) rfl (by unfold tknS; rw [if_neg (by omega), if_pos y]) hw j6' j7' hF3
      · rw [j6']
        refine c_M_see (by omega) hT3 (by omega) (fun _ => c_M_isDigit (by omega) hbs (fun y => ⟨fun z => absurd z (by decide), fun _ => ?_⟩) (fun y2 => ⟨fun _ => ?_, fun z => absurd rfl z⟩)) (fun y => absurd hs y)
        · exact digs (n - s) s s _ (by omega) (Nat.le_refl _) rfl (by unfold tknS; rw [if_neg (by omega), if_neg y1, if_pos y]) hw (by rw [ui_k (by decide)]; exact j6') (by rw [ui_s, Nat.sub_self]; rfl) (by rw [ui_k (by decide)]; exact j7') (hF3.ui (by omega))
        · have hno : ¬ sgF (B s) 12 0 < 0 := by omega
          exact sigs 12 0 s _ (by omega) hs (by unfold tknS; rw [if_neg (by omega), if_neg y1, if_neg y2]) hw (by rw [ui_k (by decide), ui_k (by decide)]; exact j6') (by rw [ui_k (by decide), ui_s, j7', nI_1]) (by rw [ui_s, if_neg hno]) ((hF3.ui (by omega)).ui (by omega))
    · have hs : n ≤ s := by
        rcases Nat.lt_or_ge s n with y | y
        · exact absurd (nI_lt y (by omega)) z
        · exact y
      have ek : tknS B n s = (24, s, s, 0) := by unfold tknS; rw [if_pos hs]
      rw [hw, ek]
      exact ⟨by rw [ui_k (by decide)]; exact j6', by rw [ui_k (by decide)]; exact j7', by rw [ui_s]; rfl, fun z => by have z : 24 = 23 := z; omega⟩
  have key : ∀ (f q : Nat) (J : MI), q + f = n → J 704 0 6 = nI q → tkW B n f q = tkW B n (n - p) p → frW I J → XX (d + 1) m_M_next Q 8 [vR 704 0, vD] [] J L := by
    intro f
    induction f with
    | zero =>
      intro q J hq j6 he hF
      have hTJ := TxM_fr hT (frW_N hF)
      have a := A J q j6 (by omega) he.symm hF
      refine r_M_next_8 ?_
      rw [j6] at a ⊢
      refine c_M_see (by omega) hTJ (by omega) (fun y => by omega) (fun _ => ⟨fun z => absurd z (by decide), fun _ => ?_⟩)
      rw [j6]
      exact c_M_see (by omega) hTJ (by omega) (fun y => by omega) (fun _ => ⟨fun _ => by rw [j6]; exact a, fun z => absurd (by decide) z⟩)
    | succ f ih =>
      intro q J hq j6 he hF
      have hTJ := TxM_fr hT (frW_N hF)
      simp only [tkW] at he
      have nx : (B q = 32 ∨ B q = 10) → XX (d + 1) m_M_next Q 8 [vR 704 0, vD] [] (ui J 704 0 6 (nI q + 1)) L := fun y => by
        rw [if_pos ⟨by omega, y⟩] at he
        exact ih (q + 1) _ (by omega) (by rw [ui_s, nI_1]) he (hF.ui (by omega))
      refine r_M_next_8 ?_
      rw [j6]
      refine c_M_see (by omega) hTJ (by omega) (fun hqn => ⟨fun z => ?_, fun z => ?_⟩) (fun y => absurd (show q < n by omega) y)
      · rw [j6]
        exact nx (Or.inr ((nI_eq (b := 10) (by have := hT.2.2.2 q; omega) (by omega)).mp z))
      · rw [j6]
        refine c_M_see (by omega) hTJ (by omega) (fun _ => ⟨fun z2 => ?_, fun z2 => ?_⟩) (fun y => absurd (show q < n by omega) y)
        · have a1 : ¬ B q = 10 := fun y => z (by rw [y]; rfl)
          have a2 : ¬ B q = 32 := fun y => z2 (by rw [y]; rfl)
          rw [if_neg (fun y => y.2.elim a2 a1)] at he
          exact A J q j6 (by omega) he.symm hF
        · rw [j6]
          exact nx (Or.inl ((nI_eq (b := 32) (by have := hT.2.2.2 q; omega) (by omega)).mp (Classical.not_not.mp z2)))
  refine r_M_next_0 (key (n - p) p _ (by omega) (by rw [ui_s, hp]) rfl (frW.rf.ui (by omega)))
end TokM

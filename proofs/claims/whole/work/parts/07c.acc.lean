/-! plain readers, fills: printed by wip/whole/gen/acc.py -/
section Acc
variable {d i : Nat} {I : MI} {L : ML}
theorem c_Road_hourOf {c : Nat} {K : Int32 → MI → ML → Prop} (hd : 1 ≤ d) (hc : c < 6) (h : K (I 129 i c) I L) : CI d m_Road_hourOf [vR 128 i, vI (nI c)] I L K := by
  refine toCI (n := 0) hd (r_Road_hourOf_0 ⟨fun q => absurd q (nlt0 (by omega)), fun _ => ⟨fun q => absurd q (nle_c (m := 6) hc (by omega)), fun _ => ⟨vin hc (by omega), _, rfl, ?_⟩⟩⟩)
  rw [cl_n (by omega)]; exact h
theorem c_Road_patienceOf {c : Nat} {K : Int32 → MI → ML → Prop} (hd : 1 ≤ d) (hc : c < 6) (h : K (I 130 i c) I L) : CI d m_Road_patienceOf [vR 128 i, vI (nI c)] I L K := by
  refine toCI (n := 0) hd (r_Road_patienceOf_0 ⟨fun q => absurd q (nlt0 (by omega)), fun _ => ⟨fun q => absurd q (nle_c (m := 6) hc (by omega)), fun _ => ⟨vin hc (by omega), _, rfl, ?_⟩⟩⟩)
  rw [cl_n (by omega)]; exact h
theorem c_Road_fromOf {c : Nat} {K : Int32 → MI → ML → Prop} (hd : 1 ≤ d) (hc : c < 10) (h : K (I 131 i c) I L) : CI d m_Road_fromOf [vR 128 i, vI (nI c)] I L K := by
  refine toCI (n := 0) hd (r_Road_fromOf_0 ⟨fun q => absurd q (nlt0 (by omega)), fun _ => ⟨fun q => absurd q (nle_c (m := 10) hc (by omega)), fun _ => ⟨vin hc (by omega), _, rfl, ?_⟩⟩⟩)
  rw [cl_n (by omega)]; exact h
theorem c_Road_toOf {c : Nat} {K : Int32 → MI → ML → Prop} (hd : 1 ≤ d) (hc : c < 10) (h : K (I 132 i c) I L) : CI d m_Road_toOf [vR 128 i, vI (nI c)] I L K := by
  refine toCI (n := 0) hd (r_Road_toOf_0 ⟨fun q => absurd q (nlt0 (by omega)), fun _ => ⟨fun q => absurd q (nle_c (m := 10) hc (by omega)), fun _ => ⟨vin hc (by omega), _, rfl, ?_⟩⟩⟩)
  rw [cl_n (by omega)]; exact h
theorem c_Road_takesOf {c : Nat} {K : Int32 → MI → ML → Prop} (hd : 1 ≤ d) (hc : c < 10) (h : K (I 133 i c) I L) : CI d m_Road_takesOf [vR 128 i, vI (nI c)] I L K := by
  refine toCI (n := 0) hd (r_Road_takesOf_0 ⟨fun q => absurd q (nlt0 (by omega)), fun _ => ⟨fun q => absurd q (nle_c (m := 10) hc (by omega)), fun _ => ⟨vin hc (by omega), _, rfl, ?_⟩⟩⟩)
  rw [cl_n (by omega)]; exact h
theorem c_Road_lagOf {c : Nat} {K : Int32 → MI → ML → Prop} (hd : 1 ≤ d) (hc : c < 10) (h : K (I 134 i c) I L) : CI d m_Road_lagOf [vR 128 i, vI (nI c)] I L K := by
  refine toCI (n := 0) hd (r_Road_lagOf_0 ⟨fun q => absurd q (nlt0 (by omega)), fun _ => ⟨fun q => absurd q (nle_c (m := 10) hc (by omega)), fun _ => ⟨vin hc (by omega), _, rfl, ?_⟩⟩⟩)
  rw [cl_n (by omega)]; exact h
theorem c_Road_stepAt {c : Nat} {K : Int32 → MI → ML → Prop} (hd : 1 ≤ d) (hc : c < 900) (h : K (I 135 i c) I L) : CI d m_Road_stepAt [vR 128 i, vI (nI c)] I L K := by
  refine toCI (n := 0) hd (r_Road_stepAt_0 ⟨fun q => absurd q (nlt0 (by omega)), fun _ => ⟨fun q => absurd q (nle_c (m := 900) hc (by omega)), fun _ => ⟨vin hc (by omega), _, rfl, ?_⟩⟩⟩)
  rw [cl_n (by omega)]; exact h
theorem c_Go_timeReckoned {c : Nat} {K : Int32 → MI → ML → Prop} (hd : 1 ≤ d) (hc : c < 10) (h : K (I 323 0 c) I L) : CI d m_Go_timeReckoned [vR 320 0, vI (nI c)] I L K := by
  refine toCI (n := 0) hd (r_Go_timeReckoned_0 ⟨fun q => absurd q (nlt0 (by omega)), fun _ => ⟨fun q => absurd q (nle_c (m := 10) hc (by omega)), fun _ => ⟨vin hc (by omega), _, rfl, ?_⟩⟩⟩)
  rw [cl_n (by omega)]; exact h
theorem c_Go_freshOf {c : Nat} {K : Int32 → MI → ML → Prop} (hd : 1 ≤ d) (hc : c < 6) (h : K (I 326 0 c) I L) : CI d m_Go_freshOf [vR 320 0, vI (nI c)] I L K := by
  refine toCI (n := 0) hd (r_Go_freshOf_0 ⟨fun q => absurd q (nlt0 (by omega)), fun _ => ⟨fun q => absurd q (nle_c (m := 6) hc (by omega)), fun _ => ⟨vin hc (by omega), _, rfl, ?_⟩⟩⟩)
  rw [cl_n (by omega)]; exact h
theorem c_Go_causeOf {c : Nat} {K : Int32 → MI → ML → Prop} (hd : 1 ≤ d) (hc : c < 6) (h : K (I 327 0 c) I L) : CI d m_Go_causeOf [vR 320 0, vI (nI c)] I L K := by
  refine toCI (n := 0) hd (r_Go_causeOf_0 ⟨fun q => absurd q (nlt0 (by omega)), fun _ => ⟨fun q => absurd q (nle_c (m := 6) hc (by omega)), fun _ => ⟨vin hc (by omega), _, rfl, ?_⟩⟩⟩)
  rw [cl_n (by omega)]; exact h
theorem c_fillL {v : Int32} {K : MI → ML → Prop} (hd : 1 ≤ d) (h : ∀ I', (∀ c, c < 6 → I' 257 i c = v) → Same (fun r a => r = 257 ∧ a = i) I I' → K I' L) : CV d m_Arr_fill_aII [vR 257 i, vI v] I L K := by
  refine toCV (n := 0) hd (r_Arr_fill_aIIL_0 ?_)
  have key : ∀ (n c : Nat) (I1 : MI), c + n = 6 → (∀ k, k < c → I1 257 i k = v) → Same (fun r a => r = 257 ∧ a = i) I I1 → XX (0 + 1) m_Arr_fill_aII (fun r I' L' => r = none ∧ K I' L') 5 [vR 257 i, vI v, vI (nI c), vI 6] [] I1 L := by
    intro n
    induction n with
    | zero =>
      intro c I1 hc hI hS
      have hc : c = 6 := by omega
      subst hc
      exact r_Arr_fill_aIIL_5 ⟨fun _ => ⟨rfl, h I1 hI hS⟩, fun q => absurd (le_c (Nat.le_refl 6) (by omega)) q⟩
    | succ n ih =>
      intro c I1 hc hI hS
      refine r_Arr_fill_aIIL_5 ⟨fun q => absurd q (nle_c (m := 6) (by omega) (by omega)), fun _ => ⟨vin (by omega) (by omega), ?_⟩⟩
      rw [nI_1, cl_n (by omega)]
      refine ih (c + 1) _ (by omega) (fun k hk => ?_) (hS.ui ⟨rfl, rfl⟩)
      by_cases e : k = c
      · rw [e, ui_s]
      · rw [ui_k e]; exact hI k (by omega)
  exact key 6 0 I rfl (fun k hk => by omega) Same.rf
theorem c_fillE {v : Int32} {K : MI → ML → Prop} (hd : 1 ≤ d) (h : ∀ I', (∀ c, c < 6 → I' 258 i c = v) → Same (fun r a => r = 258 ∧ a = i) I I' → K I' L) : CV d m_Arr_fill_aII [vR 258 i, vI v] I L K := by
  refine toCV (n := 0) hd (r_Arr_fill_aIIE_0 ?_)
  have key : ∀ (n c : Nat) (I1 : MI), c + n = 6 → (∀ k, k < c → I1 258 i k = v) → Same (fun r a => r = 258 ∧ a = i) I I1 → XX (0 + 1) m_Arr_fill_aII (fun r I' L' => r = none ∧ K I' L') 5 [vR 258 i, vI v, vI (nI c), vI 6] [] I1 L := by
    intro n
    induction n with
    | zero =>
      intro c I1 hc hI hS
      have hc : c = 6 := by omega
      subst hc
      exact r_Arr_fill_aIIE_5 ⟨fun _ => ⟨rfl, h I1 hI hS⟩, fun q => absurd (le_c (Nat.le_refl 6) (by omega)) q⟩
    | succ n ih =>
      intro c I1 hc hI hS
      refine r_Arr_fill_aIIE_5 ⟨fun q => absurd q (nle_c (m := 6) (by omega) (by omega)), fun _ => ⟨vin (by omega) (by omega), ?_⟩⟩
      rw [nI_1, cl_n (by omega)]
      refine ih (c + 1) _ (by omega) (fun k hk => ?_) (hS.ui ⟨rfl, rfl⟩)
      by_cases e : k = c
      · rw [e, ui_s]
      · rw [ui_k e]; exact hI k (by omega)
  exact key 6 0 I rfl (fun k hk => by omega) Same.rf
theorem c_fillH {v : Int32} {K : MI → ML → Prop} (hd : 1 ≤ d) (h : ∀ I', (∀ c, c < 6 → I' 259 i c = v) → Same (fun r a => r = 259 ∧ a = i) I I' → K I' L) : CV d m_Arr_fill_aII [vR 259 i, vI v] I L K := by
  refine toCV (n := 0) hd (r_Arr_fill_aIIH_0 ?_)
  have key : ∀ (n c : Nat) (I1 : MI), c + n = 6 → (∀ k, k < c → I1 259 i k = v) → Same (fun r a => r = 259 ∧ a = i) I I1 → XX (0 + 1) m_Arr_fill_aII (fun r I' L' => r = none ∧ K I' L') 5 [vR 259 i, vI v, vI (nI c), vI 6] [] I1 L := by
    intro n
    induction n with
    | zero =>
      intro c I1 hc hI hS
      have hc : c = 6 := by omega
      subst hc
      exact r_Arr_fill_aIIH_5 ⟨fun _ => ⟨rfl, h I1 hI hS⟩, fun q => absurd (le_c (Nat.le_refl 6) (by omega)) q⟩
    | succ n ih =>
      intro c I1 hc hI hS
      refine r_Arr_fill_aIIH_5 ⟨fun q => absurd q (nle_c (m := 6) (by omega) (by omega)), fun _ => ⟨vin (by omega) (by omega), ?_⟩⟩
      rw [nI_1, cl_n (by omega)]
      refine ih (c + 1) _ (by omega) (fun k hk => ?_) (hS.ui ⟨rfl, rfl⟩)
      by_cases e : k = c
      · rw [e, ui_s]
      · rw [ui_k e]; exact hI k (by omega)
  exact key 6 0 I rfl (fun k hk => by omega) Same.rf
theorem c_fillK {v : Int32} {K : MI → ML → Prop} (hd : 1 ≤ d) (h : ∀ I', (∀ c, c < 640 → I' 328 0 c = v) → Same (fun r a => r = 328 ∧ a = 0) I I' → K I' L) : CV d m_Arr_fill_aII [vR 328 0, vI v] I L K := by
  refine toCV (n := 0) hd (r_Arr_fill_aIIK_0 ?_)
  have key : ∀ (n c : Nat) (I1 : MI), c + n = 640 → (∀ k, k < c → I1 328 0 k = v) → Same (fun r a => r = 328 ∧ a = 0) I I1 → XX (0 + 1) m_Arr_fill_aII (fun r I' L' => r = none ∧ K I' L') 5 [vR 328 0, vI v, vI (nI c), vI 640] [] I1 L := by
    intro n
    induction n with
    | zero =>
      intro c I1 hc hI hS
      have hc : c = 640 := by omega
      subst hc
      exact r_Arr_fill_aIIK_5 ⟨fun _ => ⟨rfl, h I1 hI hS⟩, fun q => absurd (le_c (Nat.le_refl 640) (by omega)) q⟩
    | succ n ih =>
      intro c I1 hc hI hS
      refine r_Arr_fill_aIIK_5 ⟨fun q => absurd q (nle_c (m := 640) (by omega) (by omega)), fun _ => ⟨vin (by omega) (by omega), ?_⟩⟩
      rw [nI_1, cl_n (by omega)]
      refine ih (c + 1) _ (by omega) (fun k hk => ?_) (hS.ui ⟨rfl, rfl⟩)
      by_cases e : k = c
      · rw [e, ui_s]
      · rw [ui_k e]; exact hI k (by omega)
  exact key 640 0 I rfl (fun k hk => by omega) Same.rf
theorem c_fillF {v : Int32} {K : MI → ML → Prop} (hd : 1 ≤ d) (h : ∀ I', (∀ c, c < 6 → I' 326 0 c = v) → Same (fun r a => r = 326 ∧ a = 0) I I' → K I' L) : CV d m_Arr_fill_aII [vR 326 0, vI v] I L K := by
  refine toCV (n := 0) hd (r_Arr_fill_aIIF_0 ?_)
  have key : ∀ (n c : Nat) (I1 : MI), c + n = 6 → (∀ k, k < c → I1 326 0 k = v) → Same (fun r a => r = 326 ∧ a = 0) I I1 → XX (0 + 1) m_Arr_fill_aII (fun r I' L' => r = none ∧ K I' L') 5 [vR 326 0, vI v, vI (nI c), vI 6] [] I1 L := by
    intro n
    induction n with
    | zero =>
      intro c I1 hc hI hS
      have hc : c = 6 := by omega
      subst hc
      exact r_Arr_fill_aIIF_5 ⟨fun _ => ⟨rfl, h I1 hI hS⟩, fun q => absurd (le_c (Nat.le_refl 6) (by omega)) q⟩
    | succ n ih =>
      intro c I1 hc hI hS
      refine r_Arr_fill_aIIF_5 ⟨fun q => absurd q (nle_c (m := 6) (by omega) (by omega)), fun _ => ⟨vin (by omega) (by omega), ?_⟩⟩
      rw [nI_1, cl_n (by omega)]
      refine ih (c + 1) _ (by omega) (fun k hk => ?_) (hS.ui ⟨rfl, rfl⟩)
      by_cases e : k = c
      · rw [e, ui_s]
      · rw [ui_k e]; exact hI k (by omega)
  exact key 6 0 I rfl (fun k hk => by omega) Same.rf
theorem c_fillR {v : Int32} {K : MI → ML → Prop} (hd : 1 ≤ d) (h : ∀ I', (∀ c, c < 6 → I' 454 0 c = v) → Same (fun r a => r = 454 ∧ a = 0) I I' → K I' L) : CV d m_Arr_fill_aII [vR 454 0, vI v] I L K := by
  refine toCV (n := 0) hd (r_Arr_fill_aIIR_0 ?_)
  have key : ∀ (n c : Nat) (I1 : MI), c + n = 6 → (∀ k, k < c → I1 454 0 k = v) → Same (fun r a => r = 454 ∧ a = 0) I I1 → XX (0 + 1) m_Arr_fill_aII (fun r I' L' => r = none ∧ K I' L') 5 [vR 454 0, vI v, vI (nI c), vI 6] [] I1 L := by
    intro n
    induction n with
    | zero =>
      intro c I1 hc hI hS
      have hc : c = 6 := by omega
      subst hc
      exact r_Arr_fill_aIIR_5 ⟨fun _ => ⟨rfl, h I1 hI hS⟩, fun q => absurd (le_c (Nat.le_refl 6) (by omega)) q⟩
    | succ n ih =>
      intro c I1 hc hI hS
      refine r_Arr_fill_aIIR_5 ⟨fun q => absurd q (nle_c (m := 6) (by omega) (by omega)), fun _ => ⟨vin (by omega) (by omega), ?_⟩⟩
      rw [nI_1, cl_n (by omega)]
      refine ih (c + 1) _ (by omega) (fun k hk => ?_) (hS.ui ⟨rfl, rfl⟩)
      by_cases e : k = c
      · rw [e, ui_s]
      · rw [ui_k e]; exact hI k (by omega)
  exact key 6 0 I rfl (fun k hk => by omega) Same.rf
theorem c_fillT {v : Int64} {K : MI → ML → Prop} (hd : 1 ≤ d) (h : ∀ L', (∀ c, c < 40 → L' 641 i c = v) → (∀ r a, ¬ (r = 641 ∧ a = i) → L' r a = L r a) → K I L') : CV d m_Arr_fill_aJJ [vR 641 i, vL v] I L K := by
  refine toCV (n := 0) hd (r_Arr_fill_aJJT_0 ?_)
  have key : ∀ (n c : Nat) (L1 : ML), c + n = 40 → (∀ k, k < c → L1 641 i k = v) → (∀ r a, ¬ (r = 641 ∧ a = i) → L1 r a = L r a) → XX (0 + 1) m_Arr_fill_aJJ (fun r I' L' => r = none ∧ K I' L') 6 [vR 641 i, vL v, vD, vI (nI c), vI 40] [] I L1 := by
    intro n
    induction n with
    | zero =>
      intro c L1 hc hI hS
      have hc : c = 40 := by omega
      subst hc
      exact r_Arr_fill_aJJT_6 ⟨fun _ => ⟨rfl, h L1 hI hS⟩, fun q => absurd (le_c (Nat.le_refl 40) (by omega)) q⟩
    | succ n ih =>
      intro c L1 hc hI hS
      refine r_Arr_fill_aJJT_6 ⟨fun q => absurd q (nle_c (m := 40) (by omega) (by omega)), fun _ => ⟨vin (by omega) (by omega), ?_⟩⟩
      rw [nI_1, cl_n (by omega)]
      refine ih (c + 1) _ (by omega) (fun k hk => ?_) (fun r a hn => by rw [ul_off hn]; exact hS r a hn)
      by_cases e : k = c
      · simp [ul, e]
      · simp only [ul, e, and_false, if_false]; exact hI k (by omega)
  exact key 40 0 L rfl (fun k hk => by omega) (fun _ _ _ => rfl)
end Acc

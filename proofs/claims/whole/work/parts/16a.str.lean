/-! texts of the code; an index checked -/
theorem r_Pre_checkIndexN_0 {d : Nat} {Q : QT} {I : MI} {L : ML} {a1 : Int32} {a2 : Int32} (h : (a1 < 0 → (False)) ∧ (¬ (a1 < 0) → ((a1 < a2 → (Q (some (vI a1)) I L)) ∧ (¬ (a1 < a2) → (False))))) : XX (d + 1) m_Pre_checkIndex Q 0 [vI a1, vI a2, vN] [] I L :=
  (X_seg (d := d) (m := m_Pre_checkIndex) (Q := Q) [(.iload_n 0, 1, 0, 0, 0, 0, 0, 0, 0)] (pc' := 1) (ls' := [vI a1, vI a2, vN]) (st' := [vI a1]) (I' := I) (L' := L) (P := True ∧ True) (by decide +kernel) rfl ⟨trivial, trivial⟩ (X_if (d := d) (m := m_Pre_checkIndex) (Q := Q) (pc := 1) (off := 8) (tgt := 9) (k := .lt) (by decide +kernel) (by decide) (fun hc2 => (X_seg (d := d) (m := m_Pre_checkIndex) (Q := Q) [(.aload_n 2, 1, 0, 0, 0, 0, 0, 0, 0), (.iload_n 0, 1, 0, 0, 0, 0, 0, 0, 0), (.iload_n 1, 1, 0, 0, 0, 0, 0, 0, 0)] (pc' := 12) (ls' := [vI a1, vI a2, vN]) (st' := [vI a2, vI a1, vN]) (I' := I) (L' := L) (P := True ∧ True ∧ True ∧ True) (by decide +kernel) rfl ⟨trivial, trivial, trivial, trivial⟩ (False.elim (h.1 hc2)))) (fun hc2 => (X_seg (d := d) (m := m_Pre_checkIndex) (Q := Q) [(.iload_n 0, 1, 0, 0, 0, 0, 0, 0, 0), (.iload_n 1, 1, 0, 0, 0, 0, 0, 0, 0)] (pc' := 6) (ls' := [vI a1, vI a2, vN]) (st' := [vI a2, vI a1]) (I' := I) (L' := L) (P := True ∧ True ∧ True) (by decide +kernel) rfl ⟨trivial, trivial, trivial⟩ (X_icmp (d := d) (m := m_Pre_checkIndex) (Q := Q) (pc := 6) (off := 10) (tgt := 16) (k := .lt) (by decide +kernel) (by decide) (fun hc1 => (X_seg (d := d) (m := m_Pre_checkIndex) (Q := Q) [(.iload_n 0, 1, 0, 0, 0, 0, 0, 0, 0)] (pc' := 17) (ls' := [vI a1, vI a2, vN]) (st' := [vI a1]) (I' := I) (L' := L) (P := True ∧ True) (by decide +kernel) rfl ⟨trivial, trivial⟩ (X_iret (d := d) (m := m_Pre_checkIndex) (Q := Q) (pc := 17) (by decide +kernel) trivial ((h.2 hc2).1 hc1)))) (fun hc1 => (X_seg (d := d) (m := m_Pre_checkIndex) (Q := Q) [(.aload_n 2, 1, 0, 0, 0, 0, 0, 0, 0), (.iload_n 0, 1, 0, 0, 0, 0, 0, 0, 0), (.iload_n 1, 1, 0, 0, 0, 0, 0, 0, 0)] (pc' := 12) (ls' := [vI a1, vI a2, vN]) (st' := [vI a2, vI a1, vN]) (I' := I) (L' := L) (P := True ∧ True ∧ True ∧ True) (by decide +kernel) rfl ⟨trivial, trivial, trivial, trivial⟩ (False.elim ((h.2 hc2).2 hc1)))))))))
theorem r_Pre_checkIndexF_0 {d : Nat} {Q : QT} {I : MI} {L : ML} {a1 : Int32} {a2 : Int32} (h : (a1 < 0 → (False)) ∧ (¬ (a1 < 0) → ((a1 < a2 → (Q (some (vI a1)) I L)) ∧ (¬ (a1 < a2) → (False))))) : XX (d + 1) m_Pre_checkIndex Q 0 [vI a1, vI a2, vR 4004 0] [] I L :=
  (X_seg (d := d) (m := m_Pre_checkIndex) (Q := Q) [(.iload_n 0, 1, 0, 0, 0, 0, 0, 0, 0)] (pc' := 1) (ls' := [vI a1, vI a2, vR 4004 0]) (st' := [vI a1]) (I' := I) (L' := L) (P := True ∧ True) (by decide +kernel) rfl ⟨trivial, trivial⟩ (X_if (d := d) (m := m_Pre_checkIndex) (Q := Q) (pc := 1) (off := 8) (tgt := 9) (k := .lt) (by decide +kernel) (by decide) (fun hc2 => (X_seg (d := d) (m := m_Pre_checkIndex) (Q := Q) [(.aload_n 2, 1, 0, 0, 0, 0, 0, 0, 0), (.iload_n 0, 1, 0, 0, 0, 0, 0, 0, 0), (.iload_n 1, 1, 0, 0, 0, 0, 0, 0, 0)] (pc' := 12) (ls' := [vI a1, vI a2, vR 4004 0]) (st' := [vI a2, vI a1, vR 4004 0]) (I' := I) (L' := L) (P := True ∧ True ∧ True ∧ True) (by decide +kernel) rfl ⟨trivial, trivial, trivial, trivial⟩ (False.elim (h.1 hc2)))) (fun hc2 => (X_seg (d := d) (m := m_Pre_checkIndex) (Q := Q) [(.iload_n 0, 1, 0, 0, 0, 0, 0, 0, 0), (.iload_n 1, 1, 0, 0, 0, 0, 0, 0, 0)] (pc' := 6) (ls' := [vI a1, vI a2, vR 4004 0]) (st' := [vI a2, vI a1]) (I' := I) (L' := L) (P := True ∧ True ∧ True) (by decide +kernel) rfl ⟨trivial, trivial, trivial⟩ (X_icmp (d := d) (m := m_Pre_checkIndex) (Q := Q) (pc := 6) (off := 10) (tgt := 16) (k := .lt) (by decide +kernel) (by decide) (fun hc1 => (X_seg (d := d) (m := m_Pre_checkIndex) (Q := Q) [(.iload_n 0, 1, 0, 0, 0, 0, 0, 0, 0)] (pc' := 17) (ls' := [vI a1, vI a2, vR 4004 0]) (st' := [vI a1]) (I' := I) (L' := L) (P := True ∧ True) (by decide +kernel) rfl ⟨trivial, trivial⟩ (X_iret (d := d) (m := m_Pre_checkIndex) (Q := Q) (pc := 17) (by decide +kernel) trivial ((h.2 hc2).1 hc1)))) (fun hc1 => (X_seg (d := d) (m := m_Pre_checkIndex) (Q := Q) [(.aload_n 2, 1, 0, 0, 0, 0, 0, 0, 0), (.iload_n 0, 1, 0, 0, 0, 0, 0, 0, 0), (.iload_n 1, 1, 0, 0, 0, 0, 0, 0, 0)] (pc' := 12) (ls' := [vI a1, vI a2, vR 4004 0]) (st' := [vI a2, vI a1, vR 4004 0]) (I' := I) (L' := L) (P := True ∧ True ∧ True ∧ True) (by decide +kernel) rfl ⟨trivial, trivial, trivial, trivial⟩ (False.elim ((h.2 hc2).2 hc1)))))))))
section Str
variable {d : Nat} {I : MI} {L : ML}
theorem c_Pre_checkIndex {i n : Int32} {v : MV} {Q : QT} (hd : 1 ≤ d) (hv : v = vN ∨ v = vR 4004 0) (h1 : ¬ i < 0) (h2 : i < n) (h : Q (some (vI i)) I L) : CC d m_Pre_checkIndex [vI i, vI n, v] I L Q := by
  refine CC_le hd ?_
  rcases hv with rfl | rfl
  · exact r_Pre_checkIndexN_0 (d := 0) ⟨fun q => h1 q, fun _ => ⟨fun _ => h, fun q => q h2⟩⟩
  · exact r_Pre_checkIndexF_0 (d := 0) ⟨fun q => h1 q, fun _ => ⟨fun _ => h, fun q => q h2⟩⟩
theorem c_Str_checkIndex {i n : Int32} {K : MI → ML → Prop} (hd : 2 ≤ d) (h1 : ¬ i < 0) (h2 : i < n) (h : K I L) : CV d m_Str_checkIndex [vI i, vI n] I L K := by
  refine toCV (n := 1) hd ?_
  refine X_seg (d := 1) (m := m_Str_checkIndex) [(.iload_n 0, 1, 0, 0, 0, 0, 0, 0, 0), (.iload_n 1, 1, 0, 0, 0, 0, 0, 0, 0)] (pc' := 2) (ls' := [vI i, vI n]) (st' := [vI n, vI i]) (I' := I) (L' := L) (P := True ∧ True ∧ True) (by decide +kernel) rfl ⟨trivial, trivial, trivial⟩ (X_gets (d := 1) (m := m_Str_checkIndex) (pc := 2) (k := 1053) (by decide +kernel) (by decide +kernel) (fun v hv => ?_))
  refine X_calls (d := 1) (m := m_Str_checkIndex) (pc := 5) (idx := 1059) (y := m_Pre_checkIndex) (rest := []) [vI i, vI n, v] (Q' := fun r I' L' => r = some (vI i) ∧ I' = I ∧ L' = L) ct_Str_1059 (by decide +kernel) rfl (Nat.le_of_ble_eq_true rfl) ?_ rfl (c_Pre_checkIndex (by omega) hv h1 h2 ⟨rfl, rfl, rfl⟩) (fun r I' L' hq => ?_)
  · rcases hv with rfl | rfl <;> exact Nat.le_of_ble_eq_true rfl
  · obtain ⟨rfl, rfl, rfl⟩ := hq
    exact X_seg (d := 1) (m := m_Str_checkIndex) [(.pop, 1, 0, 0, 0, 0, 0, 0, 0)] (pc' := 9) (ls' := [vI i, vI n]) (st' := []) (I' := I') (L' := L') (P := True ∧ True) (by decide +kernel) rfl ⟨trivial, trivial⟩ (X_vret (d := 1) (m := m_Str_checkIndex) (pc := 9) (by decide +kernel) rfl ⟨rfl, h⟩)
theorem s_tab : ((List.range 23).all fun j => decide (sLo j < 200) && (List.range (sLo j)).all fun k => decide ((((sBy j k &&& (255 : Int32)).toUInt32 % 65536).toInt32) = sBy j k) && decide ((sBy j k).toUInt32.toUInt16.toUInt32.toInt32 = sBy j k) && decide (sBy j k = nI (sBy j k).toNatClampNeg) && decide ((sBy j k).toNatClampNeg < 128)) = true := by decide +kernel
theorem s_ok {j k : Nat} (hj : j < 23) (hk : k < sLo j) : (((sBy j k &&& (255 : Int32)).toUInt32 % 65536).toInt32) = sBy j k ∧ (sBy j k).toUInt32.toUInt16.toUInt32.toInt32 = sBy j k ∧ sBy j k = nI (sBy j k).toNatClampNeg ∧ (sBy j k).toNatClampNeg < 128 := by
  have h := List.all_eq_true.mp s_tab j (List.mem_range.mpr hj)
  simp only [Bool.and_eq_true, decide_eq_true_eq] at h
  have h2 := List.all_eq_true.mp h.2 k (List.mem_range.mpr hk)
  simp only [Bool.and_eq_true, decide_eq_true_eq] at h2
  exact ⟨h2.1.1.1, h2.1.1.2, h2.1.2, h2.2⟩
theorem s_len {j : Nat} (hj : j < 23) : sLo j < 200 := by
  have h := List.all_eq_true.mp s_tab j (List.mem_range.mpr hj)
  simp only [Bool.and_eq_true, decide_eq_true_eq] at h
  exact h.1
theorem c_Str_length {j : Nat} {K : Int32 → MI → ML → Prop} (hd : 2 ≤ d) (hj : j < 23) (h : K (nI (sLo j)) I L) : CI d m_Str_length [vR 4000 j] I L K := by
  have := s_len hj
  refine toCI (n := 1) hd (r_Str_length_0 (toCI (n := 0) (by omega) (r_Str_coder_0 ⟨fun q => absurd q (by decide), fun _ => ⟨rfl, _, rfl, _, rfl, ?_⟩⟩)))
  rw [show Int32.ofNat (sLo j) = nI (sLo j) from rfl, sc_shr0 (by omega)]
  exact h
theorem c_Str_isLatin1 {j : Nat} {K : Int32 → MI → ML → Prop} (hd : 1 ≤ d) (h : K 1 I L) : CI d m_Str_isLatin1 [vR 4000 j] I L K := toCI (n := 0) hd (r_Str_isLatin1_0 ⟨fun q => absurd q (by decide), fun _ => ⟨fun q => absurd rfl q, fun _ => ⟨_, rfl, h⟩⟩⟩)
theorem c_Str_charAt {j k : Nat} {K : Int32 → MI → ML → Prop} (hd : 4 ≤ d) (hj : j < 23) (hk : k < sLo j) (h : K (sBy j k) I L) : CI d m_Str_charAt [vR 4000 j, vI (nI k)] I L K := by
  have hl := s_len hj
  obtain ⟨e1, e2, _, _⟩ := s_ok hj hk
  have nar : narrow .char (.int (sBy j k)) = .int (sBy j k) := by
    have := vp_nar_char (sBy j k)
    rw [e2] at this
    unfold vp_nar at this
    exact congrArg Value.int (show (sBy j k).toUInt32.toUInt16.toUInt32.toInt32 = sBy j k from e2)
  refine toCI (n := 3) hd (r_Str_charAt_0 (c_Str_isLatin1 (by omega) ⟨fun q => absurd q (by decide), fun _ => toCI (n := 2) (by omega) (r_Lat_charAt_0 (c_Str_checkIndex (by omega) (nlt0 (by omega)) (nI_lt hk (by omega)) ⟨vin hk (by omega), ?_⟩))⟩))
  rw [cl_n (by omega), e1]
  exact ⟨nar, _, rfl, nar, _, rfl, h⟩
end Str

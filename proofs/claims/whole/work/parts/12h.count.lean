/-! count, fault -/
def cnO (R : RD) (s : SA) (P : List SA) (tp a : Int32) : Int32 := if a = 0 then nI (rC R) else if a = 1 then nI (rW R) else if a = 2 then rP R else if a = 3 then s.2.2.2.1 else if a = 4 then s.2.2.2.2 else if a = 5 then sumN s.1 6 else if a = 6 then whoN s.1 6 else if a = 7 then nI P.length else if a = 8 then tp else if a = 9 then rN R else -1
def ftO (k p a : Int32) : Int32 := if a = 0 then k else if a = 1 then p else -1
section Cnt
variable {d : Nat} {I : MI} {L : ML} {R : RD} {s : SA} {P : List SA}
theorem w_count {a : Int32} {K : Int32 → MI → ML → Prop} (hd : 2 ≤ d) (hc : CoC I R s P) (h : K (cnO R s P (I 64 0 1) a) I L) : CI d m_W_count [vR 0 0, vI a] I L K := by
  unfold cnO at h
  have eS : sumN (I 257 0) 6 = sumN s.1 6 := sumN_eq 6 (fun c hc6 => hc.2.1.1 c hc6)
  have eW : whoN (I 257 0) 6 = whoN s.1 6 := whoN_eq 6 (fun c hc6 => hc.2.1.1 c hc6)
  refine toCI (n := 1) hd (r_W_count_0 ⟨fun q => ⟨_, rfl, ?_⟩, fun q => ⟨_, rfl, ?_⟩, fun q => ⟨_, rfl, ?_⟩, fun q => ⟨_, rfl, ?_⟩, fun q => ⟨_, rfl, ?_⟩, fun q => c_St_lateSum (by omega) ⟨_, rfl, ?_⟩, fun q => c_St_lateBits (by omega) ⟨_, rfl, ?_⟩, fun q => c_Pa_size (by omega) hc.2.2.2 ⟨_, rfl, ?_⟩, fun q => toCI (n := 0) (by omega) (r_Tok_size_0 ⟨_, rfl, _, rfl, ?_⟩), fun q => ⟨_, rfl, ?_⟩, fun q => ⟨_, rfl, ?_⟩⟩)
  · rw [hc.1.1]; subst q; rw [if_pos rfl] at h; exact h
  · rw [hc.1.2.1]; subst q; rw [if_neg (by decide), if_pos rfl] at h; exact h
  · rw [hc.1.2.2.1]; subst q; rw [if_neg (by decide), if_neg (by decide), if_pos rfl] at h; exact h
  · rw [hc.2.1.2.2.2.1]; subst q; rw [if_neg (by decide), if_neg (by decide), if_neg (by decide), if_pos rfl] at h; exact h
  · rw [hc.2.1.2.2.2.2]; subst q; rw [if_neg (by decide), if_neg (by decide), if_neg (by decide), if_neg (by decide), if_pos rfl] at h; exact h
  · rw [eS]; subst q; rw [if_neg (by decide), if_neg (by decide), if_neg (by decide), if_neg (by decide), if_neg (by decide), if_pos rfl] at h; exact h
  · rw [eW]; subst q; rw [if_neg (by decide), if_neg (by decide), if_neg (by decide), if_neg (by decide), if_neg (by decide), if_neg (by decide), if_pos rfl] at h; exact h
  · subst q; rw [if_neg (by decide), if_neg (by decide), if_neg (by decide), if_neg (by decide), if_neg (by decide), if_neg (by decide), if_neg (by decide), if_pos rfl] at h; exact h
  · subst q; rw [if_neg (by decide), if_neg (by decide), if_neg (by decide), if_neg (by decide), if_neg (by decide), if_neg (by decide), if_neg (by decide), if_neg (by decide), if_pos rfl] at h; exact h
  · rw [hc.1.2.2.2.1]; subst q; rw [if_neg (by decide), if_neg (by decide), if_neg (by decide), if_neg (by decide), if_neg (by decide), if_neg (by decide), if_neg (by decide), if_neg (by decide), if_neg (by decide), if_pos rfl] at h; exact h
  · obtain ⟨q0, q1, q2, q3, q4, q5, q6, q7, q8, q9⟩ := q
    rw [if_neg q0, if_neg q1, if_neg q2, if_neg q3, if_neg q4, if_neg q5, if_neg q6, if_neg q7, if_neg q8, if_neg q9] at h
    exact h
theorem m_count {a : Int32} {K : Int32 → MI → ML → Prop} (hd : 2 ≤ d) (hO : CoO R s P) (hc : CoM I R s P) (h : K (cnO R s P (I 704 0 5) a) (ui I 704 0 0 0) L) : CI d m_M_count [vR 704 0, vI a] I L K := by
  have hR := hO.1
  have hc0 : CoM (ui I 704 0 0 0) R s P := CoM_cg hR hc t0_6
  unfold cnO at h
  refine toCI (n := 1) hd (r_M_count_0 ⟨fun q => ⟨_, rfl, ?_⟩, fun q => ⟨_, rfl, ?_⟩, fun q => ⟨_, rfl, ?_⟩, fun q => ⟨_, rfl, ?_⟩, fun q => ⟨_, rfl, ?_⟩, fun q => c_M_sumNow (by omega) hR hc0.1 hc0.2.1 hO.2.1.2 ⟨_, rfl, ?_⟩, fun q => c_M_whoNow (by omega) hR hc0.1 hc0.2.1 hO.2.1.2 ⟨_, rfl, ?_⟩, fun q => ⟨_, rfl, ?_⟩, fun q => ⟨_, rfl, ?_⟩, fun q => ⟨_, rfl, ?_⟩, fun q => ⟨_, rfl, ?_⟩⟩)
  · rw [hc0.1.1]; subst q; rw [if_pos rfl] at h; exact h
  · rw [hc0.1.2.1]; subst q; rw [if_neg (by decide), if_pos rfl] at h; exact h
  · rw [hc0.1.2.2.1]; subst q; rw [if_neg (by decide), if_neg (by decide), if_pos rfl] at h; exact h
  · rw [hc0.2.1.2.1]; subst q; rw [if_neg (by decide), if_neg (by decide), if_neg (by decide), if_pos rfl] at h; exact h
  · rw [hc0.2.1.2.2]; subst q; rw [if_neg (by decide), if_neg (by decide), if_neg (by decide), if_neg (by decide), if_pos rfl] at h; exact h
  · subst q; rw [if_neg (by decide), if_neg (by decide), if_neg (by decide), if_neg (by decide), if_neg (by decide), if_pos rfl] at h; exact h
  · subst q; rw [if_neg (by decide), if_neg (by decide), if_neg (by decide), if_neg (by decide), if_neg (by decide), if_neg (by decide), if_pos rfl] at h; exact h
  · rw [hc0.2.2.2.1]; subst q; rw [if_neg (by decide), if_neg (by decide), if_neg (by decide), if_neg (by decide), if_neg (by decide), if_neg (by decide), if_neg (by decide), if_pos rfl] at h; exact h
  · rw [ui_k (by decide)]; subst q; rw [if_neg (by decide), if_neg (by decide), if_neg (by decide), if_neg (by decide), if_neg (by decide), if_neg (by decide), if_neg (by decide), if_neg (by decide), if_pos rfl] at h; exact h
  · rw [hc0.1.2.2.2.1]; subst q; rw [if_neg (by decide), if_neg (by decide), if_neg (by decide), if_neg (by decide), if_neg (by decide), if_neg (by decide), if_neg (by decide), if_neg (by decide), if_neg (by decide), if_pos rfl] at h; exact h
  · obtain ⟨q0, q1, q2, q3, q4, q5, q6, q7, q8, q9⟩ := q
    rw [if_neg q0, if_neg q1, if_neg q2, if_neg q3, if_neg q4, if_neg q5, if_neg q6, if_neg q7, if_neg q8, if_neg q9] at h
    exact h
theorem w_fault {a : Int32} {K : Int32 → MI → ML → Prop} (hd : 2 ≤ d) (h : K (ftO (I 192 0 2) (I 192 0 3) a) I L) : CI d m_W_fault [vR 0 0, vI a] I L K := by
  unfold ftO at h
  refine toCI (n := 1) hd (r_W_fault_0 ⟨fun q => ⟨fun q1 => ⟨_, rfl, ?_⟩, fun q1 => toCI (n := 0) (by omega) (r_Rd_faultPlace_0 ⟨_, rfl, _, rfl, ?_⟩)⟩, fun q => toCI (n := 0) (by omega) (r_Rd_faultKind_0 ⟨_, rfl, _, rfl, ?_⟩)⟩)
  · rw [if_neg q, if_neg q1] at h; exact h
  · rw [if_neg q, if_pos (Classical.not_not.mp q1)] at h; exact h
  · rw [if_pos (Classical.not_not.mp q)] at h; exact h
theorem m_fault {a : Int32} {K : Int32 → MI → ML → Prop} (hd : 1 ≤ d) (h : K (ftO (I 704 0 13) (I 704 0 14) a) (ui I 704 0 0 0) L) : CI d m_M_fault [vR 704 0, vI a] I L K := by
  unfold ftO at h
  refine toCI (n := 0) hd (r_M_fault_0 ⟨fun q => ⟨fun q1 => ⟨_, rfl, ?_⟩, fun q1 => ⟨_, rfl, ?_⟩⟩, fun q => ⟨_, rfl, ?_⟩⟩)
  · rw [if_neg q, if_neg q1] at h; exact h
  · rw [if_neg q, if_pos (Classical.not_not.mp q1)] at h; rw [ui_k (by decide)]; exact h
  · rw [if_pos (Classical.not_not.mp q)] at h; rw [ui_k (by decide)]; exact h
end Cnt

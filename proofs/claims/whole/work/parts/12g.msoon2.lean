/-! soonest, way, of the reference: public -/
section MSoon2
variable {d : Nat} {I : MI} {L : ML} {R : RD} {s : SA} {P : List SA}
theorem fd_F0 {I I' : MI} (h : Same fdS I I') (ho : ofl I I') : mF0 I I' := ⟨h.mono (fun r a q => q.elim (fun z => ⟨by rcases z.1 with y | y | y | y | y <;> omega, z.2⟩) (fun z => ⟨by omega, z.2⟩)), fun j _ => by rw [fd_no h (by decide) (by decide)], ho.lo⟩
theorem c_M_laysFound {K : Int32 → MI → ML → Prop} (hd : 13 ≤ d) (hO : CoO R s P) (hc : CoM I R s P) (h0 : fwN R s 6 0 = none → ∀ I', CoM I' R s P → I' 704 0 0 = I 704 0 0 → mF0 I I' → K (-1) I' L) (h1 : ∀ n x, fwN R s 6 0 = some (n, x) → n ≤ 5 → ∀ I', CoM I' R s P → (∀ j, j < n → I' 738 0 j = nI (x.getD j 0)) → I' 704 0 0 = I 704 0 0 → mF0 I I' → K (nI n) I' L) : CI d m_M_laysFound [vR 704 0] I L K := by
  have hR := hO.1
  refine toCI (n := 12) hd (r_M_laysFound_0 ?_)
  have key : ∀ (f n : Nat) (J : MI), n + f = 6 → fwN R s f n = fwN R s 6 0 → CoM J R s P → J 704 0 0 = I 704 0 0 → mF0 I J → XX (12 + 1) m_M_laysFound (fun r I' L' => ∃ x, r = some (vI x) ∧ K x I' L') 2 [vR 704 0, vI (nI n)] [] J L := by
    intro f
    induction f with
    | zero =>
      intro n J hn he hcJ ht hF
      exact r_M_laysFound_2 ⟨fun _ => ⟨_, rfl, h0 he.symm J hcJ ht hF⟩, fun q => absurd (nI_lt (a := 5) (show 5 < n by omega) (by omega)) q⟩
    | succ f ih =>
      intro n J hn he hcJ ht hF
      refine r_M_laysFound_2 ⟨fun q => absurd q (nI_nlt (a := 5) (b := n) (by omega) (by omega)), fun _ => ?_⟩
      rw [hcJ.2.1.2.1]
      refine CoM_begins (by omega) hO hcJ (fun J1 hG1 n1 t1 hF1 => ?_)
      obtain ⟨r1, r2, m, hm, em, h21, htm⟩ := hG1
      have := c_M_finds (L := L) hR n (d := 12) (g := 0) (I := J1) (t := s) (K := fun x5 I3 L4 => (x5 = 0 → (XX (12 + 1) m_M_laysFound (fun r I' L' => ∃ x, r = some (vI x) ∧ K x I' L') 2 [vR 704 0, vI (nI n + 1)] [] I3 L4)) ∧ (¬ (x5 = 0) → (∃ x, some (vI (nI n)) = some (vI x) ∧ K x I3 L4))) (by omega) (by rw [n1]; exact hcJ.1) ⟨r1, ⟨m, hm, em, h21, htm⟩, fun _ c hc6 => by rw [n1]; exact (hcJ.2.1.1 c hc6).2.2, fun z => by omega⟩ (fun _ c hc => r2 c hc) hO.2.1 (by omega) (fun e J2 _ _ _ _ ho2 hS2 => ⟨fun _ => ?_, fun z => absurd rfl z⟩) (fun x e J2 _ hx ho2 hS2 => ⟨fun z => absurd z (by decide), fun _ => ⟨_, rfl, ?_⟩⟩)
      · rw [Nat.zero_add] at this
        exact this
      · rw [nI_1]
        exact ih (n + 1) J2 (by omega) (by rw [← he, fwN_n e]) (CoM_cg hR hcJ ((fd_no hS2 (by decide) (by decide)).trans n1)) (by rw [ho2 0 (by decide) (by decide), t1]; exact ht) ((hF.tr hF1).tr (fd_F0 hS2 ho2))
      · exact h1 n x (by rw [← he, fwN_y e]) (by omega) J2 (CoM_cg hR hcJ ((fd_no hS2 (by decide) (by decide)).trans n1)) (fun j hj => by have := hx j hj; rw [Nat.zero_add] at this; exact this) (by rw [ho2 0 (by decide) (by decide), t1]; exact ht) ((hF.tr hF1).tr (fd_F0 hS2 ho2))
  exact key 6 0 I (by omega) rfl hc rfl mF0.rf
theorem m_soonest {K : Int32 → MI → ML → Prop} (hd : 14 ≤ d) (hO : CoO R s P) (hc : CoM I R s P) (h : ∀ I', CoM I' R s P → mFr I I' → K (snO R s) I' L) : CI d m_M_soonest [vR 704 0] I L K := by
  have hR := hO.1
  have hc0 : CoM (ui I 704 0 0 0) R s P := CoM_cg hR hc t0_6
  unfold snO at h
  refine toCI (n := 13) hd (r_M_soonest_0 (c_M_laysFound (by omega) hO hc0 (fun e I' hc' ht hF => ⟨_, rfl, ?_⟩) (fun n x e _ I' hc' _ ht hF => ⟨_, rfl, ?_⟩)))
  · have := h I' hc' ⟨t0_F.tr hF, by rw [ht, ui_s]⟩
    rw [e] at this
    exact this
  · have := h I' hc' ⟨t0_F.tr hF, by rw [ht, ui_s]⟩
    rw [e] at this
    exact this
theorem m_way {a : Int32} {K : Int32 → MI → ML → Prop} (hd : 14 ≤ d) (hO : CoO R s P) (hc : CoM I R s P) (h : ∀ I', CoM I' R s P → mFr I I' → K (wyO R s a) I' L) : CI d m_M_way [vR 704 0, vI a] I L K := by
  have z0 : (0 : Int32).toInt = 0 := rfl
  have hR := hO.1
  have hc0 : CoM (ui I 704 0 0 0) R s P := CoM_cg hR hc t0_6
  unfold wyO at h
  refine toCI (n := 13) hd (r_M_way_0 ⟨fun q => ?_, fun q => ⟨_, rfl, ?_⟩⟩)
  · have a0 : 0 ≤ a.toInt := by have := Int32.le_iff_toInt_le.mp q; omega
    rw [if_pos a0] at h
    have ea := ge_nI a0
    refine c_M_laysFound (by omega) hO hc0 (fun e I' hc' ht hF => ⟨fun _ => ⟨_, rfl, ?_⟩, fun z => absurd (Int32.le_iff_toInt_le.mpr (by have : (-1 : Int32).toInt = -1 := rfl; omega)) z⟩) (fun n x e hn I' hc' hx ht hF => ⟨fun z => ⟨_, rfl, ?_⟩, fun z => ?_⟩)
    · have := h I' hc' ⟨t0_F.tr hF, by rw [ht, ui_s]⟩
      rw [e] at this
      exact this
    · have := h I' hc' ⟨t0_F.tr hF, by rw [ht, ui_s]⟩
      rw [e] at this
      have hz := Int32.le_iff_toInt_le.mp z
      rw [nI_toInt (by omega)] at hz
      have this : K (if a.toInt < (n : Int) then nI (x.getD a.toInt.toNat 0) else -1) I' L := this
      rw [if_neg (by omega)] at this
      exact this
    · have := h I' hc' ⟨t0_F.tr hF, by rw [ht, ui_s]⟩
      rw [e] at this
      have hz := Int32.lt_iff_toInt_lt.mp (Int32.not_le.mp z)
      rw [nI_toInt (by omega)] at hz
      have this : K (if a.toInt < (n : Int) then nI (x.getD a.toInt.toNat 0) else -1) I' L := this
      rw [if_pos hz, ← hx _ (by omega)] at this
      have hb : a.toInt.toNat < 5 := by omega
      generalize a.toInt.toNat = a' at *
      rw [ea, cl_n (by omega)]
      exact ⟨vin hb (by omega), _, rfl, this⟩
  · have a0 : ¬ 0 ≤ a.toInt := fun z => q (Int32.le_iff_toInt_le.mpr (by omega))
    have := h _ hc0 ⟨t0_F, ui_s⟩
    rw [if_neg a0] at this
    exact this
end MSoon2

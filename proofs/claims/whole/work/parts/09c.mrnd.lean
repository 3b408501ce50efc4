/-! the reference's rounds -/
def mtA (I : MI) (R : RD) (m n : Nat) : Prop := ∀ w, w < n → I 723 0 w = tmO R (nI m) w
/-- the fields of the reference but the mud and the latest -/
def ofl (I I' : MI) : Prop := ∀ j, j ≠ 21 → j ≠ 22 → I' 704 0 j = I 704 0 j
theorem ofl.tr {I I' I'' : MI} (h : ofl I I') (h' : ofl I' I'') : ofl I I'' := fun j a b => (h' j a b).trans (h j a b)
def ltS : Nat → Nat → Prop := fun r a => (r = 704 ∨ r = 721 ∨ r = 722 ∨ r = 723) ∧ a = 0
def liS : Nat → Nat → Prop := fun r a => (r = 704 ∨ r = 721 ∨ r = 722) ∧ a = 0
def grS : Nat → Nat → Prop := fun r a => (r = 704 ∨ r = 721 ∨ r = 722 ∨ r = 723 ∨ r = 724 ∨ r = 725) ∧ a = 0
theorem mt_lt {I I' : MI} (h : Same mtS I I') : Same ltS I I' := h.mono (fun _ _ q => ⟨Or.inr (q.1.elim Or.inl (fun z => Or.inr (Or.inl z))), q.2⟩)
theorem mt_li {I I' : MI} (h : Same mtS I I') : Same liS I I' := h.mono (fun _ _ q => ⟨Or.inr q.1, q.2⟩)
theorem li_gr {I I' : MI} (h : Same liS I I') : Same grS I I' := h.mono (fun _ _ q => ⟨by rcases q.1 with z | z | z <;> simp [z], q.2⟩)
theorem lt_gr {I I' : MI} (h : Same ltS I I') : Same grS I I' := h.mono (fun _ _ q => ⟨by rcases q.1 with z | z | z | z <;> simp [z], q.2⟩)
theorem lt_no {I I' : MI} (h : Same ltS I I') {r : Nat} (h1 : r ≠ 704) (h2 : r ≠ 721) (h3 : r ≠ 722) (h4 : r ≠ 723) : I' r 0 = I r 0 := h r 0 (fun q => by rcases q.1 with z | z | z | z <;> omega)
theorem li_no {I I' : MI} (h : Same liS I I') {r : Nat} (h1 : r ≠ 704) (h2 : r ≠ 721) (h3 : r ≠ 722) : I' r 0 = I r 0 := h r 0 (fun q => by rcases q.1 with z | z | z <;> omega)
theorem gr_no {I I' : MI} (h : Same grS I I') {r : Nat} (h1 : ¬ (r = 704 ∨ r = 721 ∨ r = 722 ∨ r = 723 ∨ r = 724 ∨ r = 725)) : I' r 0 = I r 0 := h r 0 (fun q => h1 q.1)
section MRnd
variable {d : Nat} {I : MI} {L : ML} {R : RD}
theorem c_M_laysTimes {m : Nat} {K : MI → ML → Prop} (hd : 4 ≤ d) (hR : WF R) (hM : MRo (I 706 0) R) (hm : m ≤ 9) (h : ∀ I', mtA I' R m (rW R) → I' 704 0 21 = nI m → ofl I I' → Same ltS I I' → K I' L) : CV d m_M_laysTimes [vR 704 0, vI (nI m)] I L K := by
  refine toCV (n := 3) hd (r_M_laysTimes_0 ?_)
  have hW := hR.2.1
  have key : ∀ (n w : Nat) (J : MI), w + n = rW R → mtA J R m w → J 704 0 21 = nI m → ofl I J → Same ltS I J → XX (3 + 1) m_M_laysTimes (fun r I' L' => r = none ∧ K I' L') 7 [vR 704 0, vI (nI m), vI (nI w)] [] J L := by
    intro n
    induction n with
    | zero =>
      intro w J hw ht h21 ho hs
      have n6 : J 706 0 = I 706 0 := lt_no hs (by decide) (by decide) (by decide) (by decide)
      refine r_M_laysTimes_7 ?_
      rw [n6, hM.2.1]
      refine ⟨fun _ => ⟨rfl, h J (by rw [show rW R = w by omega]; exact ht) h21 ho hs⟩, fun q => absurd (nI_le (show rW R ≤ w by omega) (by omega)) q⟩
    | succ n ih =>
      intro w J hw ht h21 ho hs
      have n6 : J 706 0 = I 706 0 := lt_no hs (by decide) (by decide) (by decide) (by decide)
      refine r_M_laysTimes_7 ?_
      rw [n6, hM.2.1]
      refine ⟨fun q => absurd q (nI_ge (show w < rW R by omega) (by omega)), fun _ => c_M_timeOf (by omega) hR (by rw [n6]; exact hM) (show w < rW R by omega) hm (fun J1 hs1 => ⟨vin (by omega) (by omega), ?_⟩)⟩
      rw [nI_1, cl_n (by omega)]
      have k23 : J1 723 0 = J 723 0 := mt_no hs1 (by decide) (by decide)
      have k04 : J1 704 0 = J 704 0 := mt_no hs1 (by decide) (by decide)
      refine ih (w + 1) _ (by omega) (fun k hk => ?_) (by rw [ui_r (by decide), k04]; exact h21) (fun j a b => by rw [ui_r (by decide), k04]; exact ho j a b) ((hs.tr (mt_lt hs1)).ui ⟨Or.inr (Or.inr (Or.inr rfl)), rfl⟩)
      by_cases e : k = w
      · subst e; rw [ui_s]
      · rw [ui_k e, k23]; exact ht k (by omega)
  refine key (rW R) 0 _ (by omega) (fun w hw => by omega) (by rw [ui_s]) (fun j a b => ui_k a) (Same.rf.ui ⟨Or.inl rfl, rfl⟩)
/-- before round r: the stand lies in the rows r and r + 1 -/
def rwA (I : MI) (R : RD) (r : Nat) (s : SA) : Prop := ∀ c, c < rC R → I 724 0 (6 * (r + 1) + c) = s.1 c ∧ I 724 0 (6 * r + c) = s.2.1 c
def bsW (R : RD) (mud out : Int32) (fr la ea : Nat → Int32) (c w : Nat) : Int32 × Int32 := ((List.range w).filter (fun w => decide (rt R w = c))).foldl (bst R mud out fr la ea) (0, -1)
theorem bsW_no {mud out : Int32} {fr la ea : Nat → Int32} {c w : Nat} (h : rt R w ≠ c) : bsW R mud out fr la ea c (w + 1) = bsW R mud out fr la ea c w := by
  unfold bsW
  rw [List.range_succ, List.filter_append, List.foldl_append]
  simp [h]
theorem bsW_yes {mud out : Int32} {fr la ea : Nat → Int32} {c w : Nat} (h : rt R w = c) : bsW R mud out fr la ea c (w + 1) = bst R mud out fr la ea (bsW R mud out fr la ea c w) w := by
  unfold bsW
  rw [List.range_succ, List.filter_append, List.foldl_append]
  simp [h]
theorem al_ring (a b x t l : Int32) : (((a - b) + x) + t) - l = (((a - b) + t) - l) + x := by
  simp only [Int32.sub_eq_add_neg]
  ac_rfl
theorem c_M_lateIn {s : SA} {r c m : Nat} {out : Int32} {fr : Nat → Int32} {K : Int32 → MI → ML → Prop} (hd : 4 ≤ d) (hR : WF R) (hM : MRo (I 706 0) R) (hm : m ≤ 9) (h21 : I 704 0 21 = nI m) (ht : mtA I R m (rW R)) (hr : r ≤ 998) (hc : c < rC R) (hrow : rwA I R r s)
    (hfr : ∀ k, k < c → I 724 0 (6 * (r + 2) + k) = fr k) (hrf : ∀ k, k < c → rg (fr k) 0 100000) (hrs : ∀ k, k < rC R → rg (s.1 k) 0 100000 ∧ rg (s.2.1 k) 0 100000) (hrh : rg (I 725 0 c) 0 1000)
    (h : ∀ I', I' 704 0 22 = (best R (nI m) out fr s.1 s.2.1 c).2 → I' 704 0 21 = nI m → ofl I I' → Same liS I I' → K (mn 100000 ((best R (nI m) out fr s.1 s.2.1 c).1 + I 725 0 c)) I' L) : CI d m_M_lateIn [vR 704 0, vI (nI r), vI (nI c), vI out] I L K := by
  refine toCI (n := 3) hd (r_M_lateIn_0 ?_)
  have hW := hR.2.1
  have hC := hR.1
  have brg : ∀ w, w ≤ rW R → rg (bsW R (nI m) out fr s.1 s.2.1 c w).1 0 101200 := fun w hw => by
    refine best_rg hR (c := c) hm hrf (fun k hk => (hrs k hk).1) (fun k hk => (hrs k hk).2) _ _ (fun x hx => ?_) (rg_lit (n := 0) (by omega) (by omega) (by omega))
    have h1 := List.mem_filter.mp hx
    have h2 := List.mem_range.mp h1.1
    exact wts_mem.mpr ⟨by omega, of_decide_eq_true h1.2⟩
  have key : ∀ (n w : Nat) (J : MI), w + n = rW R → J 704 0 22 = (bsW R (nI m) out fr s.1 s.2.1 c w).2 → J 704 0 21 = nI m → ofl I J → Same liS I J → XX (3 + 1) m_M_lateIn (fun r I' L' => ∃ x, r = some (vI x) ∧ K x I' L') 11 [vR 704 0, vI (nI r), vI (nI c), vI out, vI (bsW R (nI m) out fr s.1 s.2.1 c w).1, vI (nI w), vD] [] J L := by
    intro n
    induction n with
    | zero =>
      intro w J hw j22 j21 ho hs
      have n6 : J 706 0 = I 706 0 := li_no hs (by decide) (by decide) (by decide)
      have n25 : J 725 0 = I 725 0 := li_no hs (by decide) (by decide) (by decide)
      have ew : w = rW R := by omega
      have hb := brg w (by omega)
      subst ew
      refine r_M_lateIn_11 ?_
      rw [n6, hM.2.1, n25, cl_n (by omega)]
      refine ⟨fun _ => ⟨vin (by omega) (by omega), c_M_kept (by omega) ⟨_, rfl, ?_⟩⟩, fun q => absurd (nI_le (Nat.le_refl _) (by omega)) q⟩
      have hsum := rg_add hb hrh (by omega) (by omega)
      have e : kpd ((bsW R (nI m) out fr s.1 s.2.1 c (rW R)).1 + I 725 0 c) 0 100000 = mn 100000 ((bsW R (nI m) out fr s.1 s.2.1 c (rW R)).1 + I 725 0 c) := by
        rw [kpd_mm (by decide)]
        have h1 := rg_mn (x := 100000) (rg_lit (n := 100000) (a := 100000) (b := 100000) (by omega) (by omega) (by omega)) hsum
        unfold mx
        by_cases q : 0 < mn 100000 ((bsW R (nI m) out fr s.1 s.2.1 c (rW R)).1 + I 725 0 c)
        · rw [if_pos q]
        · rw [if_neg q]
          have h2 := Int32.le_iff_toInt_le.mp (Int32.not_lt.mp q)
          have h0 : (0 : Int32).toInt = 0 := rfl
          exact Int32.toInt_inj.mp (by have := h1.1; omega)
      rw [e]
      exact h J j22 j21 ho hs
    | succ n ih =>
      intro w J hw j22 j21 ho hs
      have n6 : J 706 0 = I 706 0 := li_no hs (by decide) (by decide) (by decide)
      have n23 : J 723 0 = I 723 0 := li_no hs (by decide) (by decide) (by decide)
      have n24 : J 724 0 = I 724 0 := li_no hs (by decide) (by decide) (by decide)
      have hwR : w < rW R := by omega
      have hMJ : MRo (J 706 0) R := by rw [n6]; exact hM
      obtain ⟨b1, b2, b3, b4⟩ := hR.2.2.1 w hwR
      refine r_M_lateIn_11 ⟨fun q => ?_, fun _ => c_M_toOf (by omega) hR hMJ hwR ⟨fun q => ?_, fun q => ?_⟩⟩
      · rw [n6, hM.2.1] at q; exact absurd q (nI_ge hwR (by omega))
      · have hne : rt R w ≠ c := fun z => q (by rw [z])
        have := ih (w + 1) J (by omega) (by rw [bsW_no hne]; exact j22) j21 ho hs
        rw [bsW_no hne, ← nI_1] at this
        exact this
      have hto : rt R w = c := (nI_eq (by omega) (by omega)).mp (Classical.not_not.mp q)
      have hal : alO R (nI m) w fr s.1 s.2.1 = alO R (nI m) w fr s.1 s.2.1 := rfl
      have stay : bsW R (nI m) out fr s.1 s.2.1 c (w + 1) = bsW R (nI m) out fr s.1 s.2.1 c w → ∀ (J1 : MI), Same mtS J J1 → XX (3 + 1) m_M_lateIn (fun r I' L' => ∃ x, r = some (vI x) ∧ K x I' L') 11 [vR 704 0, vI (nI r), vI (nI c), vI out, vI (bsW R (nI m) out fr s.1 s.2.1 c w).1, vI (nI w + 1), vD] [] J1 L := by
        intro he J1 hs1
        have k04 : J1 704 0 = J 704 0 := mt_no hs1 (by decide) (by decide)
        have := ih (w + 1) J1 (by omega) (by rw [he, k04]; exact j22) (by rw [k04]; exact j21) (fun j a b => by rw [k04]; exact ho j a b) (hs.tr (mt_li hs1))
        rw [he, ← nI_1] at this
        exact this
      refine ⟨fun q2 => ?_, fun q2 => ?_⟩
      · refine c_M_fromOf (by omega) hR hMJ hwR ?_
        have e10 : (10 : Int32) + nI (rf R w) = nI (10 + rf R w) := nI_add 10 _
        have e10c : (10 : Int32) + nI c = nI (10 + c) := nI_add 10 _
        rw [e10, e10c]
        refine ⟨vin (by omega) (by omega), vin (by omega) (by omega), c_M_lagOf (by omega) hR hMJ hwR (c_M_fromOf (by omega) hR hMJ hwR ?_)⟩
        have eix : ((6 : Int32) * ((nI r + (2 : Int32)) - nI (rl R w))) + nI (rf R w) = nI (6 * (r + 2 - rl R w) + rf R w) := by
          have a1 : nI r + (2 : Int32) = nI (r + 2) := nI_add r 2
          rw [a1, nI_sub (by omega)]
          have a2 : (6 : Int32) * nI (r + 2 - rl R w) = nI (6 * (r + 2 - rl R w)) := pk_mul 6 _
          rw [a2, nI_add]
        rw [eix, cl_n (by omega), cl_n (by omega), cl_n (by omega), cl_n (by omega)]
        refine ⟨vin (by omega) (by omega), vin (by omega) (by omega), c_M_lagOf (by omega) hR hMJ hwR ?_⟩
        rw [n6, (hM.2.2.2.2.1 _ b1).1, (hM.2.2.2.2.1 _ hc).1, hM.2.2.1, n24, n23, ht w hwR]
        have hx : I 724 0 (6 * (r + 2 - rl R w) + rf R w) = (if rl R w = 0 then fr (rf R w) else if rl R w = 1 then s.1 (rf R w) else s.2.1 (rf R w)) := by
          by_cases z : rl R w = 0
          · rw [if_pos z, z]
            exact hfr _ (by have := b4 z; omega)
          · rw [if_neg z]
            by_cases z1 : rl R w = 1
            · rw [if_pos z1, z1]
              exact (hrow _ b1).1
            · rw [if_neg z1, show rl R w = 2 by omega]
              exact (hrow _ b1).2
        have eal : ((((rh R (rf R w) - rh R c) + I 724 0 (6 * (r + 2 - rl R w) + rf R w)) + tmO R (nI m) w) - nI (rl R w) * rP R) = alO R (nI m) w fr s.1 s.2.1 := by
          rw [al_ring, hx, ← hto]
          rfl
        rw [eal]
        have harg := alO_rg hR hwR hm (fr := fr) (la := s.1) (ea := s.2.1) (fun z => hrf _ (by have := b4 z; omega)) (hrs _ b1).1 (hrs _ b1).2
        refine ⟨fun q3 => ?_, fun q3 => ?_⟩
        · exact stay (by rw [bsW_yes hto]; unfold bst; rw [if_neg (fun z => absurd q3 (Int32.not_le.mpr z.1))]) J Same.rf
        · refine c_M_isKept (by omega) hR hMJ hwR hm j21 (harg.mono (by omega) (by omega)) (fun J1 hs1 => ⟨fun q4 => ?_, fun q4 => ?_⟩)
          · have k04 : J1 704 0 = J 704 0 := mt_no hs1 (by decide) (by decide)
            have k1 : kvO R (nI m) w (alO R (nI m) w fr s.1 s.2.1) = 1 := by
              unfold kvO at q4 ⊢
              cases hU : rU R with
              | none => rfl
              | some f =>
                rw [hU] at q4
                rcases hR.2.2.2.2.2.2.1 f hU _ (Bd_nm hR hwR hm (harg.mono (by omega) (by omega))) with z | z
                · exact absurd z q4
                · exact z
            have he : bsW R (nI m) out fr s.1 s.2.1 c (w + 1) = (alO R (nI m) w fr s.1 s.2.1, nI w) := by
              rw [bsW_yes hto]; unfold bst
              rw [if_pos ⟨Int32.not_le.mp q3, fun z => q2 z, k1⟩]
            have := ih (w + 1) (ui J1 704 0 22 (nI w)) (by omega) (by rw [he, ui_s]) (by rw [ui_k (by decide), k04]; exact j21) (fun j a b => by rw [ui_k b, k04]; exact ho j a b) ((hs.tr (mt_li hs1)).ui ⟨Or.inl rfl, rfl⟩)
            rw [he, ← nI_1] at this
            exact this
          · refine stay ?_ J1 hs1
            rw [bsW_yes hto]; unfold bst
            rw [if_neg (fun z => by have := z.2.2; rw [Classical.not_not.mp q4] at this; exact absurd this (by decide))]
      · refine stay ?_ J Same.rf
        rw [bsW_yes hto]; unfold bst
        rw [if_neg (fun z => z.2.1 (Classical.not_not.mp q2))]
  exact key (rW R) 0 _ (by omega) (by rw [ui_s]; rfl) (by rw [ui_k (by decide)]; exact h21) (fun j a b => ui_k b) (Same.rf.ui ⟨Or.inl rfl, rfl⟩)
end MRnd

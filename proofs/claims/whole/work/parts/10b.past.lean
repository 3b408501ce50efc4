/-! the past: what can be undone -/
def pusL (P : List SA) (s : SA) : List SA := if P.length < 10 then P ++ [s] else P.tail ++ [s]
theorem pusL_len {P : List SA} {s : SA} (h : P.length ≤ 10) : (pusL P s).length ≤ 10 := by
  unfold pusL
  by_cases q : P.length < 10
  · rw [if_pos q, List.length_append]; simp; omega
  · rw [if_neg q, List.length_append, List.length_tail]; simp; omega
def PaA (I : MI) (P : List SA) : Prop := P.length ≤ 10 ∧ ∃ e, e < 10 ∧ I 576 0 1 = nI e ∧ I 576 0 2 = nI P.length ∧ ∀ k (hk : k < P.length), StA I (9 + (e + k) % 10) P[k]
def paS : Nat → Nat → Prop := fun r a => (r = 576 ∧ a = 0) ∨ ((r = 256 ∨ r = 257 ∨ r = 258 ∨ r = 259) ∧ 9 ≤ a ∧ a < 19)
theorem PaA.same {S : Nat → Nat → Prop} {I I' : MI} {P : List SA} (h : PaA I P) (hs : Same S I I') (h0 : ¬ S 576 0) (h1 : ∀ r a, 256 ≤ r → r ≤ 259 → 9 ≤ a → a < 19 → ¬ S r a) : PaA I' P := by
  obtain ⟨hl, e, he, e1, e2, hf⟩ := h
  refine ⟨hl, e, he, by rw [hs 576 0 h0]; exact e1, by rw [hs 576 0 h0]; exact e2, fun k hk => ?_⟩
  have hm : (e + k) % 10 < 10 := Nat.mod_lt _ (by omega)
  exact (hf k hk).same hs (h1 _ _ (by omega) (by omega) (by omega) (by omega)) (h1 _ _ (by omega) (by omega) (by omega) (by omega)) (h1 _ _ (by omega) (by omega) (by omega) (by omega)) (h1 _ _ (by omega) (by omega) (by omega) (by omega))
section Past
variable {d i : Nat} {I : MI} {L : ML} {s : SA} {P : List SA}
theorem st_pa {j : Nat} (h1 : 9 ≤ j) (h2 : j < 19) {I I' : MI} (h : Same (stS j) I I') : Same paS I I' := h.mono (fun r a q => Or.inr ⟨q.1, by rw [q.2]; exact h1, by rw [q.2]; exact h2⟩)
theorem m10 : ((List.range 10).all fun e => decide ((nI e + (1 : Int32)) % (10 : Int32) = nI ((e + 1) % 10))) = true := by decide +kernel
theorem c_Pa_push {K : MI → ML → Prop} (hd : 2 ≤ d) (hP : PaA I P) (hs : StA I i s) (hi : i < 9) (h : ∀ I', PaA I' (pusL P s) → StA I' i s → Same paS I I' → K I' L) : CV d m_Pa_push [vR 576 0, vR 256 i] I L K := by
  refine toCV (n := 1) hd (r_Pa_push_0 ?_)
  obtain ⟨hl, e, he, e1, e2, hf⟩ := hP
  rw [e1, e2, nI_add]
  refine c_fm10 (by omega) (by omega) ?_
  have hm : (e + P.length) % 10 < 10 := Nat.mod_lt _ (by omega)
  rw [cl_n (by omega)]
  refine ⟨vin hm (by omega), c_St_copy (s := s) (by omega) (by omega) hs (fun J hJ hS => ?_)⟩
  have n5 : J 576 0 = I 576 0 := hS 576 0 (fun q => by rcases q.1 with z | z | z | z <;> exact absurd z (by decide))
  have hsJ : StA J i s := by
    have ne : ∀ r, ¬ stS (9 + (e + P.length) % 10) r i := fun r q => by have := q.2; omega
    exact hs.same hS (ne _) (ne _) (ne _) (ne _)
  have hfJ : ∀ k (hk : k < P.length), (e + k) % 10 ≠ (e + P.length) % 10 → StA J (9 + (e + k) % 10) P[k] := fun k hk hne => by
    have ne : ∀ r, ¬ stS (9 + (e + P.length) % 10) r (9 + (e + k) % 10) := fun r q => by have := q.2; omega
    exact (hf k hk).same hS (ne _) (ne _) (ne _) (ne _)
  have st5 : ∀ {t : SA} {j v x}, StA J j t → StA (ui J 576 0 v x) j t := fun ht => ht.same (S := fun r a => r = 576 ∧ a = 0) (Same.rf.ui ⟨rfl, rfl⟩) (fun q => absurd q.1 (by decide)) (fun q => absurd q.1 (by decide)) (fun q => absurd q.1 (by decide)) (fun q => absurd q.1 (by decide))
  have hSp : Same paS I J := st_pa (by omega) (by omega) hS
  rw [n5, e1, e2]
  refine ⟨fun q => ⟨rfl, h _ ?_ (st5 hsJ) (hSp.ui (Or.inl ⟨rfl, rfl⟩))⟩, fun q => ⟨rfl, h _ ?_ (st5 hsJ) (hSp.ui (Or.inl ⟨rfl, rfl⟩))⟩⟩
  · have h10 : P.length = 10 := by
      rcases Nat.lt_or_ge P.length 10 with z | z
      · exact absurd q (nle_c (m := 10) z (by omega))
      · omega
    have hc := of_decide_eq_true (List.all_eq_true.mp m10 e (List.mem_range.mpr he))
    have ep : pusL P s = P.tail ++ [s] := by unfold pusL; rw [if_neg (by omega)]
    have el : (pusL P s).length = 10 := by rw [ep, List.length_append, List.length_tail, h10]; rfl
    refine ⟨by omega, (e + 1) % 10, Nat.mod_lt _ (by omega), by rw [ui_s, hc], by rw [ui_k (by decide), n5, e2, el, h10], fun k hk => ?_⟩
    refine st5 ?_
    by_cases ek : k = 9
    · subst ek
      have eg : (pusL P s)[9] = s := by
        simp only [ep]
        rw [List.getElem_append_right (by rw [List.length_tail, h10]; decide)]
        simp
      rw [eg, show ((e + 1) % 10 + 9) % 10 = (e + P.length) % 10 by omega]
      exact hJ
    · have eg : (pusL P s)[k] = P[k + 1]'(by omega) := by
        simp only [ep]
        rw [List.getElem_append_left (by rw [List.length_tail]; omega), List.getElem_tail]
      rw [eg, show ((e + 1) % 10 + k) % 10 = (e + (k + 1)) % 10 by omega]
      exact hfJ (k + 1) (by omega) (by omega)
  · have h10 : P.length < 10 := by
      rcases Nat.lt_or_ge P.length 10 with z | z
      · exact z
      · exact absurd (le_c (m := 10) z (by omega)) q
    have ep : pusL P s = P ++ [s] := by unfold pusL; rw [if_pos h10]
    have el : (pusL P s).length = P.length + 1 := by rw [ep, List.length_append]; rfl
    refine ⟨by omega, e, he, by rw [ui_k (by decide), n5, e1], by rw [ui_s, nI_1, el], fun k hk => ?_⟩
    refine st5 ?_
    by_cases ek : k = P.length
    · subst ek
      have eg : (pusL P s)[P.length] = s := by
        simp only [ep]
        simp
      rw [eg]
      exact hJ
    · have eg : (pusL P s)[k] = P[k]'(by omega) := by
        simp only [ep]
        rw [List.getElem_append_left (by omega)]
      rw [eg]
      exact hfJ k (by omega) (by omega)
theorem c_Pa_size {K : Int32 → MI → ML → Prop} (hd : 1 ≤ d) (hP : PaA I P) (h : K (nI P.length) I L) : CI d m_Pa_size [vR 576 0] I L K := by
  refine toCI (n := 0) hd (r_Pa_size_0 ⟨_, rfl, ?_⟩)
  obtain ⟨hl, e, he, e1, e2, hf⟩ := hP
  rw [e2]
  exact h
theorem c_Pa_forget {K : MI → ML → Prop} (hd : 1 ≤ d) (he : ∃ e, e < 10 ∧ I 576 0 1 = nI e) (h : ∀ I', PaA I' [] → Same paS I I' → K I' L) : CV d m_Pa_forget [vR 576 0] I L K := by
  refine toCV (n := 0) hd (r_Pa_forget_0 ⟨rfl, ?_⟩)
  obtain ⟨e, he, e1⟩ := he
  exact h _ ⟨by simp, e, he, by rw [ui_k (by decide)]; exact e1, by rw [ui_s]; rfl, fun k hk => by simp at hk⟩ (Same.rf.ui (Or.inl ⟨rfl, rfl⟩))
def bkS (i : Nat) : Nat → Nat → Prop := fun r a => (r = 576 ∧ a = 0) ∨ stS i r a
theorem c_Pa_back {n : Nat} {K : MI → ML → Prop} (hd : 2 ≤ d) (hP : PaA I P) (hn1 : 1 ≤ n) (hn2 : n ≤ P.length) (hi : i < 9) (h : ∀ I', PaA I' (P.take (P.length - n)) → StA I' i (P[P.length - n]'(by omega)) → Same (bkS i) I I' → K I' L) : CV d m_Pa_back [vR 576 0, vI (nI n), vR 256 i] I L K := by
  refine toCV (n := 1) hd (r_Pa_back_0 ?_)
  have hP0 := hP
  obtain ⟨hl, e, he, e1, e2, hf⟩ := hP
  rw [e2, nI_sub hn2]
  refine ⟨fun q => absurd q (nI_nlt (a := n) (b := 1) hn1 (by omega)), fun _ => ⟨fun q => absurd q (nI_nlt hn2 (by omega)), fun _ => ?_⟩⟩
  have hu : (ui I 576 0 2 (nI (P.length - n))) 576 0 1 = nI e := by rw [ui_k (by decide)]; exact e1
  rw [hu, ui_s, nI_add]
  refine c_fm10 (by omega) (by omega) ?_
  have hm : (e + (P.length - n)) % 10 < 10 := Nat.mod_lt _ (by omega)
  rw [cl_n (by omega)]
  have st5 : ∀ {t : SA} {j x}, StA I j t → StA (ui I 576 0 2 x) j t := fun ht => ht.same (S := fun r a => r = 576 ∧ a = 0) (Same.rf.ui ⟨rfl, rfl⟩) (fun q => absurd q.1 (by decide)) (fun q => absurd q.1 (by decide)) (fun q => absurd q.1 (by decide)) (fun q => absurd q.1 (by decide))
  refine ⟨vin hm (by omega), c_St_copy (s := P[P.length - n]'(by omega)) (by omega) (by omega) (st5 (hf _ (by omega))) (fun J hJ hS => ⟨rfl, h J ?_ hJ ((Same.rf.ui (Or.inl ⟨rfl, rfl⟩)).tr (hS.mono (fun _ _ q => Or.inr q)))⟩)⟩
  have el : (P.take (P.length - n)).length = P.length - n := by rw [List.length_take]; omega
  have n5 : J 576 0 = (ui I 576 0 2 (nI (P.length - n))) 576 0 := hS 576 0 (fun q => by rcases q.1 with z | z | z | z <;> exact absurd z (by decide))
  refine ⟨by omega, e, he, by rw [n5]; exact hu, by rw [n5, ui_s, el], fun k hk => ?_⟩
  have ne : ∀ r, ¬ stS i r (9 + (e + k) % 10) := fun r q => by have := q.2; omega
  rw [List.getElem_take]
  exact (st5 (hf k (by omega))).same hS (ne _) (ne _) (ne _) (ne _)
end Past

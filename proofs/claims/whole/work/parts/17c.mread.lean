/-! a law, read by the reference -/
def frL (I I' : MI) : Prop := (∀ r a, ¬ (r = 704 ∧ a = 0) → ¬ (r = 709 ∧ a = 0) → I' r a = I r a) ∧ (∀ j, j < 6 ∨ 12 < j ∨ j = 8 → I' 704 0 j = I 704 0 j) ∧ ∀ j, j < 283 → I' 709 0 j = I 709 0 j
theorem frL.rf {I : MI} : frL I I := ⟨fun _ _ _ _ => rfl, fun _ _ => rfl, fun _ _ => rfl⟩
theorem frL.tr {I I' I'' : MI} (h : frL I I') (h' : frL I' I'') : frL I I'' := ⟨fun r a x y => (h'.1 r a x y).trans (h.1 r a x y), fun j x => (h'.2.1 j x).trans (h.2.1 j x), fun j x => (h'.2.2 j x).trans (h.2.2 j x)⟩
theorem frN_L {I I' : MI} (h : frN I I') : frL I I' := ⟨fun r a x _ => h.1 r a x, h.2, fun j _ => by rw [h.1 709 0 (by omega)]⟩
/-- codes c stand from the m-th on, and are the last; those ahead as before -/
def cdA (I I' : MI) (m : Nat) (c : List Nat) : Prop := I' 709 0 283 = nI (m + c.length) ∧ (∀ q, q < c.length → I' 709 0 (284 + m + q) = nI (c.getD q 0)) ∧ ∀ q, q < m → I' 709 0 (284 + q) = I 709 0 (284 + q)
theorem cdA_0 {I : MI} {m : Nat} (h : I 709 0 283 = nI m) : cdA I I m [] := ⟨by rw [h]; rfl, fun q hq => absurd hq (by simp), fun _ _ => rfl⟩
theorem cdA_app {I I1 I2 : MI} {m : Nat} {c1 c2 : List Nat} (h1 : cdA I I1 m c1) (h2 : cdA I1 I2 (m + c1.length) c2) : cdA I I2 m (c1 ++ c2) := by
  refine ⟨?_, fun q hq => ?_, fun q hq => ?_⟩
  · rw [h2.1, List.length_append, Nat.add_assoc]
  · rw [List.length_append] at hq
    by_cases e : q < c1.length
    · rw [show 284 + m + q = 284 + (m + q) by omega, h2.2.2 (m + q) (by omega), show 284 + (m + q) = 284 + m + q by omega, h1.2.1 q e, List.getD_eq_getElem?_getD, List.getD_eq_getElem?_getD, List.getElem?_append_left e]
    · have := h2.2.1 (q - c1.length) (by omega)
      rw [show 284 + m + q = 284 + (m + c1.length) + (q - c1.length) by omega, this, List.getD_eq_getElem?_getD, List.getD_eq_getElem?_getD, List.getElem?_append_right (by omega)]
  · rw [h2.2.2 q (by omega)]; exact h1.2.2 q hq
theorem cdA_fr {I I1 I2 : MI} {m : Nat} {c : List Nat} (h : cdA I I1 m c) (hF : frN I1 I2) : cdA I I2 m c := by
  unfold cdA
  rw [hF.1 709 0 (by omega)]
  exact h
section ReadM
variable {d : Nat} {I : MI} {L : ML} {B : Nat → Nat} {n rd : Nat}
def mOut (B : Nat → Nat) (n : Nat) (I : MI) (m : Nat) (r : PR) (I' : MI) : Prop := match r with
  | Sum.inl x => FtM I' x.1 x.2 ∧ frL I I'
  | Sum.inr x => PsM I' B n x.1 ∧ cdA I I' m x.2.1 ∧ frL I I'
def mRd (nt : Nat) : MTy := match nt with
  | 0 => m_M_readAtom
  | 1 => m_M_readTerm
  | 2 => m_M_readSum
  | 3 => m_M_readUnit
  | 4 => m_M_readBoth
  | _ => m_M_readTruth
theorem c_M_codesF {k pl : Nat} {x : Int32} {K : MI → ML → Prop} (hd : 1 ≤ d) (hF : FtM I k pl) (h : K I L) : CV d m_M_codes [vR 704 0, vI x] I L K := toCV (n := 0) hd (r_M_codes_0 ⟨fun q => absurd q (FtM_ne hF), fun _ => ⟨rfl, h⟩⟩)
theorem c_M_codes {I0 : MI} {p m k : Nat} {c : List Nat} {K : MI → ML → Prop} (hd : 1 ≤ d) (hP : PsM I B n p) (hc : cdA I0 I m c) (hF : frL I0 I) (hm : m + c.length < 900) (h : ∀ I', PsM I' B n p → cdA I0 I' m (c ++ [k]) → frL I0 I' → K I' L) : CV d m_M_codes [vR 704 0, vI (nI k)] I L K := by
  have e1 : (284 : Int32) + nI (m + c.length) = nI (284 + (m + c.length)) := nI_add 284 _
  refine toCV (n := 0) hd (r_M_codes_0 ?_)
  rw [hc.1, e1, cl_n (by omega), ui_k (by omega), hc.1, nI_1]
  refine ⟨fun _ => ⟨vin (by omega) (by omega), rfl, h _ ?_ ?_ ?_⟩, fun q => absurd hP.2.2.2 q⟩
  · obtain ⟨a1, a2, a3, a4⟩ := hP
    have e7 : ∀ y z, ui (ui I 709 0 (284 + (m + c.length)) y) 709 0 283 z 704 0 = I 704 0 := fun y z => by rw [ui_off (by omega), ui_off (by omega)]
    have e8 : ∀ y z, ui (ui I 709 0 (284 + (m + c.length)) y) 709 0 283 z 708 0 = I 708 0 := fun y z => by rw [ui_off (by omega), ui_off (by omega)]
    refine ⟨⟨by rw [e7]; exact a1.1, a1.2.1, fun i hi => by rw [e8]; exact a1.2.2.1 i hi, a1.2.2.2⟩, ?_, a3, by rw [e7]; exact a4⟩
    unfold TkM
    rw [e7]
    exact a2
  · refine ⟨by rw [ui_s, List.length_append]; rfl, fun q hq => ?_, fun q hq => ?_⟩
    · rw [List.length_append] at hq
      simp at hq
      rw [ui_k (by omega)]
      by_cases e : q = c.length
      · rw [e, show 284 + m + c.length = 284 + (m + c.length) by omega, ui_s, getD_app2]
      · rw [ui_k (by omega), getD_app1 (by omega)]; exact hc.2.1 q (by omega)
    · rw [ui_k (by omega), ui_k (by omega)]; exact hc.2.2 q hq
  · refine hF.tr ⟨fun r a _ y => by rw [ui_off y, ui_off y], fun j _ => by rw [ui_r (by decide), ui_r (by decide)], fun j hj => by rw [ui_k (by omega), ui_k (by omega)]⟩
/-! nothing is done behind a fault -/
theorem c_M_atomF {k pl : Nat} {x : Int32} {K : MI → ML → Prop} (hd : 2 ≤ d) (hF : FtM I k pl) (h : K I L) : CV d m_M_readAtom [vR 704 0, vI x] I L K := toCV (n := 1) hd (r_M_readAtom_0 (c_M_isF (by omega) hF ⟨fun _ => ⟨fun _ => c_M_isF (by omega) hF ⟨fun _ => c_M_isF (by omega) hF ⟨fun _ => c_M_failsF (by omega) hF ⟨rfl, h⟩, fun q => absurd rfl q⟩, fun q => absurd rfl q⟩, fun q => absurd (FtM_ne hF) q⟩, fun q => absurd rfl q⟩))
theorem c_M_termF {k pl : Nat} {x : Int32} {K : MI → ML → Prop} (hd : 3 ≤ d) (hF : FtM I k pl) (h : K I L) : CV d m_M_readTerm [vR 704 0, vI x] I L K := toCV (n := 2) hd (r_M_readTerm_0 (c_M_atomF (by omega) hF (r_M_readTerm_5 (c_M_eatsF (by omega) hF ⟨fun _ => ⟨rfl, h⟩, fun q => absurd rfl q⟩))))
theorem c_M_sumF {k pl : Nat} {x : Int32} {K : MI → ML → Prop} (hd : 4 ≤ d) (hF : FtM I k pl) (h : K I L) : CV d m_M_readSum [vR 704 0, vI x] I L K := toCV (n := 3) hd (r_M_readSum_0 (c_M_termF (by omega) hF (r_M_readSum_5 (c_M_isF (by omega) hF ⟨fun q => absurd rfl q, fun _ => c_M_isF (by omega) hF ⟨fun _ => ⟨rfl, h⟩, fun q => absurd rfl q⟩⟩))))
theorem c_M_unitF {k pl : Nat} {x : Int32} {K : MI → ML → Prop} (hd : 5 ≤ d) (hF : FtM I k pl) (h : K I L) : CV d m_M_readUnit [vR 704 0, vI x] I L K := toCV (n := 4) hd (r_M_readUnit_0 (c_M_isF (by omega) hF ⟨fun _ => c_M_isF (by omega) hF ⟨fun _ => c_M_sumF (by omega) hF (c_M_isF (by omega) hF ⟨fun _ => c_M_isF (by omega) hF ⟨fun _ => c_M_isF (by omega) hF ⟨fun q => absurd rfl q, fun _ => c_M_isF (by omega) hF ⟨fun q => absurd rfl q, fun _ => c_M_isF (by omega) hF ⟨fun _ => c_M_failsF (by omega) hF (c_M_sumF (by omega) hF (c_M_codesF (by omega) hF ⟨rfl, h⟩)), fun q => absurd rfl q⟩⟩⟩, fun q => absurd rfl q⟩, fun q => absurd rfl q⟩), fun q => absurd rfl q⟩, fun q => absurd rfl q⟩))
theorem c_M_bothF {k pl : Nat} {x : Int32} {K : MI → ML → Prop} (hd : 6 ≤ d) (hF : FtM I k pl) (h : K I L) : CV d m_M_readBoth [vR 704 0, vI x] I L K := toCV (n := 5) hd (r_M_readBoth_0 (c_M_unitF (by omega) hF (r_M_readBoth_5 (c_M_eatsF (by omega) hF ⟨fun _ => ⟨rfl, h⟩, fun q => absurd rfl q⟩))))
theorem c_M_truthF {k pl : Nat} {x : Int32} {K : MI → ML → Prop} (hd : 7 ≤ d) (hF : FtM I k pl) (h : K I L) : CV d m_M_readTruth [vR 704 0, vI x] I L K := toCV (n := 6) hd (r_M_readTruth_0 (c_M_bothF (by omega) hF (r_M_readTruth_5 (c_M_eatsF (by omega) hF ⟨fun _ => ⟨rfl, h⟩, fun q => absurd rfl q⟩))))
theorem c_M_goesIn {deep p : Nat} {K : Int32 → MI → ML → Prop} (hd : 7 ≤ d) (hP : PsM I B n p) (hdp : deep ≤ 6) (h1 : deep < 6 → ∀ I', PsM I' B n (tkn B n p).2.2.1 → frN I I' → K 1 I' L) (h0 : ¬ deep < 6 → ∀ I', FtM I' (fkN (tkn B n p).1 4) (tkn B n p).2.1 → frN I I' → K 0 I' L) : CI d m_M_goesIn [vR 704 0, vI (nI deep)] I L K := by
  refine toCI (n := 6) hd (r_M_goesIn_0 ⟨fun q => ⟨fun z => absurd hP.2.2.2 z, fun _ => c_M_next (by omega) hP (fun I' h' hF => ⟨fun z => absurd h'.2.2.2 z, fun _ => ⟨_, rfl, h1 ?_ I' h' (frW_N hF)⟩⟩)⟩, fun q => c_M_fails (w := 4) (by omega) hP (by omega) (by omega) (fun I' h' hF => ⟨fun _ => ⟨fun _ => ⟨_, rfl, h0 ?_ I' h' hF⟩, fun z => absurd (FtM_ne h') z⟩, fun z => absurd (FtM_ne h') z⟩)⟩)
  · have : deep ≠ 6 := fun z => q (by rw [z]; rfl)
    omega
  · have := (nI_eq (b := 6) (by omega) (by omega)).mp (Classical.not_not.mp q)
    omega
theorem c_M_wordOf {k : Nat} {K : Int32 → MI → ML → Prop} (hd : 1 ≤ d) (hrd : I 704 0 15 = nI rd) (hr : rd ≤ 1) (hk : k ≤ 41) (h1 : ∀ q, nmW rd k = some q → K (nI q.1) I L) (h0 : nmW rd k = none → K (-1) I L) : CI d m_M_wordOf [vR 704 0, vI (nI k)] I L K := by
  have eqk : ∀ j, j ≤ 41 → (nI k = nI j ↔ k = j) := fun j hj => nI_eq (by omega) (by omega)
  have no : (k ≠ 14 ∧ k ≠ 15 ∧ k ≠ 2 ∧ k ≠ 16 ∧ k ≠ 17 ∧ k ≠ 5) → K (-1) I L := fun z => h0 (by unfold nmW; rw [if_neg z.1, if_neg z.2.1, if_neg z.2.2.1, if_neg (fun y => z.2.2.2.1 y.1), if_neg (fun y => z.2.2.2.2.1 y.1), if_neg (fun y => z.2.2.2.2.2 y.1)])
  have r01 : rd = 0 ∨ rd = 1 := by omega
  refine toCI (n := 0) hd (r_M_wordOf_0 ?_)
  rw [hrd]
  refine ⟨fun q => ⟨_, rfl, ?_⟩, fun q => ⟨_, rfl, no ?_⟩, fun q => ⟨_, rfl, no ?_⟩, fun q => ⟨fun q2 => ⟨_, rfl, ?_⟩, fun q2 => ⟨_, rfl, ?_⟩⟩, fun q => ⟨_, rfl, no ?_⟩, fun q => ⟨_, rfl, no ?_⟩, fun q => ⟨_, rfl, no ?_⟩, fun q => ⟨_, rfl, no ?_⟩, fun q => ⟨_, rfl, no ?_⟩, fun q => ⟨_, rfl, no ?_⟩, fun q => ⟨_, rfl, no ?_⟩, fun q => ⟨_, rfl, no ?_⟩, fun q => ⟨_, rfl, ?_⟩, fun q => ⟨_, rfl, ?_⟩, fun q => ⟨fun q2 => ⟨_, rfl, ?_⟩, fun q2 => ⟨_, rfl, ?_⟩⟩, fun q => ⟨fun q2 => ⟨_, rfl, ?_⟩, fun q2 => ⟨_, rfl, ?_⟩⟩, fun q => ⟨_, rfl, no ?_⟩⟩
  · have e := (eqk 2 (by omega)).mp q; exact h1 (2, 2) (by unfold nmW; rw [if_neg (by omega), if_neg (by omega), if_pos e])
  · have e := (eqk 3 (by omega)).mp q; omega
  · have e := (eqk 4 (by omega)).mp q; omega
  · have e := (eqk 5 (by omega)).mp q
    have : rd ≠ 1 := fun z => q2 (by rw [z]; rfl)
    exact h0 (by unfold nmW; rw [if_neg (by omega), if_neg (by omega), if_neg (by omega), if_neg (by omega), if_neg (by omega), if_neg (by omega)])
  · have e := (eqk 5 (by omega)).mp q
    have : rd = 1 := (nI_eq (b := 1) (by omega) (by omega)).mp (Classical.not_not.mp q2)
    exact h1 (5, 4) (by unfold nmW; rw [if_neg (by omega), if_neg (by omega), if_neg (by omega), if_neg (by omega), if_neg (by omega), if_pos ⟨e, this⟩])
  · have e := (eqk 6 (by omega)).mp q; omega
  · have e := (eqk 7 (by omega)).mp q; omega
  · have e := (eqk 8 (by omega)).mp q; omega
  · have e := (eqk 9 (by omega)).mp q; omega
  · have e := (eqk 10 (by omega)).mp q; omega
  · have e := (eqk 11 (by omega)).mp q; omega
  · have e := (eqk 12 (by omega)).mp q; omega
  · have e := (eqk 13 (by omega)).mp q; omega
  · have e := (eqk 14 (by omega)).mp q; exact h1 (0, 0) (by unfold nmW; rw [if_pos e])
  · have e := (eqk 15 (by omega)).mp q; exact h1 (1, 1) (by unfold nmW; rw [if_neg (by omega), if_pos e])
  · have e := (eqk 16 (by omega)).mp q
    have : rd ≠ 0 := fun z => q2 (by rw [z]; rfl)
    exact h0 (by unfold nmW; rw [if_neg (by omega), if_neg (by omega), if_neg (by omega), if_neg (by omega), if_neg (by omega), if_neg (by omega)])
  · have e := (eqk 16 (by omega)).mp q
    have : rd = 0 := (nI_eq (b := 0) (by omega) (by omega)).mp (Classical.not_not.mp q2)
    exact h1 (3, 3) (by unfold nmW; rw [if_neg (by omega), if_neg (by omega), if_neg (by omega), if_pos ⟨e, this⟩])
  · have e := (eqk 17 (by omega)).mp q
    have : rd ≠ 1 := fun z => q2 (by rw [z]; rfl)
    exact h0 (by unfold nmW; rw [if_neg (by omega), if_neg (by omega), if_neg (by omega), if_neg (by omega), if_neg (by omega), if_neg (by omega)])
  · have e := (eqk 17 (by omega)).mp q
    have : rd = 1 := (nI_eq (b := 1) (by omega) (by omega)).mp (Classical.not_not.mp q2)
    exact h1 (4, 3) (by unfold nmW; rw [if_neg (by omega), if_neg (by omega), if_neg (by omega), if_neg (by omega), if_pos ⟨e, this⟩])
  · exact ⟨fun z => q.2.2.2.2.2.2.2.2.2.2.2.2.1 ((eqk 14 (by omega)).mpr z), fun z => q.2.2.2.2.2.2.2.2.2.2.2.2.2.1 ((eqk 15 (by omega)).mpr z), fun z => q.1 ((eqk 2 (by omega)).mpr z), fun z => q.2.2.2.2.2.2.2.2.2.2.2.2.2.2.1 ((eqk 16 (by omega)).mpr z), fun z => q.2.2.2.2.2.2.2.2.2.2.2.2.2.2.2 ((eqk 17 (by omega)).mpr z), fun z => q.2.2.2.1 ((eqk 5 (by omega)).mpr z)⟩
end ReadM

/-! soonest, way, of the program -/
def fwN (R : RD) (s : SA) : Nat → Nat → Option (Nat × List Nat)
  | 0, _ => none
  | f + 1, n => match rch R n s with
    | some x => some (n, x)
    | none => fwN R s f (n + 1)
theorem fwN_y {R : RD} {s : SA} {f n : Nat} {x : List Nat} (h : rch R n s = some x) : fwN R s (f + 1) n = some (n, x) := by
  show (match rch R n s with | some x => some (n, x) | none => fwN R s f (n + 1)) = _
  rw [h]
theorem fwN_n {R : RD} {s : SA} {f n : Nat} (h : rch R n s = none) : fwN R s (f + 1) n = fwN R s f (n + 1) := by
  show (match rch R n s with | some x => some (n, x) | none => fwN R s f (n + 1)) = _
  rw [h]
def snO (R : RD) (s : SA) : Int32 := match fwN R s 6 0 with
  | some x => nI x.1
  | none => -1
def wyO (R : RD) (s : SA) (a : Int32) : Int32 := if 0 ≤ a.toInt then (match fwN R s 6 0 with
  | some x => if a.toInt < x.1 then nI (x.2.getD a.toInt.toNat 0) else -1
  | none => -1) else -3
def cbS : Nat → Nat → Prop := fun r a => cdS r a ∨ (r = 516 ∧ a = 0)
section Soon
variable {d : Nat} {I : MI} {L : ML} {R : RD} {s : SA} {P : List SA}
theorem lb_cb {i : Nat} {I I' : MI} (h : Same (lbS i) I I') : Same cbS I I' := h.mono (fun r a q => q.elim (fun z => Or.inl (z.elim (fun y => Or.inr (Or.inl y)) (fun y => Or.inl ⟨y.1, by omega⟩))) Or.inr)
theorem CoC_lb {I' : MI} (hc : CoC I R s P) (hG : GoA I' R) (hS : Same (lbS 2) I I') : CoC I' R s P := by
  refine ⟨hc.1.same hS (fun r h1 h2 => lb_road h1 h2), hc.2.1.lb hS (by omega), hG, hc.2.2.2.same hS (fun q => ?_) (fun r a h1 h2 h3 h4 q => ?_)⟩
  · rcases q with (z | z) | z
    · rcases z.1 with y | y | y | y | y | y | y | y | y <;> omega
    · rcases z.1 with y | y | y | y <;> omega
    · omega
  · rcases q with (z | z) | z
    · exact goS_st h1 h2 z
    · omega
    · omega
theorem c_Br_fewest {K : Int32 → MI → ML → Prop} (hd : 15 ≤ d) (hO : CoO R s P) (hc : CoC I R s P) (h0 : fwN R s 6 0 = none → ∀ I', CoC I' R s P → Same cbS I I' → K (-1) I' L) (h1 : ∀ n x, fwN R s 6 0 = some (n, x) → n ≤ 5 → ∀ I', CoC I' R s P → (∀ j, j < n → I' 516 0 j = nI (x.getD j 0)) → Same cbS I I' → K (nI n) I' L) : CI d m_Br_fewest [vR 512 0, vR 256 0] I L K := by
  have hR := hO.1
  refine toCI (n := 14) hd (r_Br_fewest_0 (c_St_copy (by omega) (by omega) hc.2.1 (fun I1 hs1 hS1 => ?_)))
  have hG1 := GoA_st hc.2.2.1 hS1
  have hc1 := CoC_tu hc (i := 3) (by omega) (by omega) hG1 (st_tu hS1)
  have hb1 : Same cbS I I1 := (st_cd (i := 3) (by omega) hS1).mono (fun _ _ q => Or.inl q)
  have key : ∀ (f n : Nat) (J : MI), n + f = 6 → fwN R s f n = fwN R s 6 0 → StA J 3 s → CoC J R s P → Same cbS I J → XX (14 + 1) m_Br_fewest (fun r I' L' => ∃ x, r = some (vI x) ∧ K x I' L') 12 [vR 512 0, vD, vI (nI n)] [] J L := by
    intro f
    induction f with
    | zero =>
      intro n J hn he hs hcJ hS
      exact r_Br_fewest_12 ⟨fun _ => ⟨_, rfl, h0 he.symm J hcJ hS⟩, fun q => absurd (nI_lt (a := 5) (show 5 < n by omega) (by omega)) q⟩
    | succ f ih =>
      intro n J hn he hs hcJ hS
      refine r_Br_fewest_12 ⟨fun q => absurd q (nI_nlt (a := 5) (b := n) (by omega) (by omega)), fun _ => ?_⟩
      refine c_Br_isReached (i := 0) hR n (by omega) hcJ.1 hcJ.2.2.1 hs hO.2.1 (by omega) (fun e J1 hG1 _ hS1 => ⟨fun _ => ?_, fun z => absurd rfl z⟩) (fun x e J1 hG1 _ hx hS1 => ⟨fun z => absurd z (by decide), fun _ => ⟨_, rfl, ?_⟩⟩)
      · rw [nI_1]
        exact ih (n + 1) J1 (by omega) (by rw [← he, fwN_n e]) (hs.lb hS1 (by omega)) (CoC_lb hcJ hG1 (lb_lb (by omega) hS1)) (hS.tr (lb_cb hS1))
      · exact h1 n x (by rw [← he, fwN_y e]) (by omega) J1 (CoC_lb hcJ hG1 (lb_lb (by omega) hS1)) (fun j hj => by have := hx j hj; rw [Nat.zero_add] at this; exact this) (hS.tr (lb_cb hS1))
  exact key 6 0 I1 (by omega) rfl hs1 hc1 hb1
theorem w_soonest {K : Int32 → MI → ML → Prop} (hd : 16 ≤ d) (hO : CoO R s P) (hc : CoC I R s P) (h : ∀ I', CoC I' R s P → Same cbS I I' → K (snO R s) I' L) : CI d m_W_soonest [vR 0 0] I L K := by
  unfold snO at h
  refine toCI (n := 15) hd (r_W_soonest_0 (c_Br_fewest (by omega) hO hc (fun e I' hc' hS => ⟨_, rfl, ?_⟩) (fun n x e _ I' hc' _ hS => ⟨_, rfl, ?_⟩)))
  · have := h I' hc' hS
    rw [e] at this
    exact this
  · have := h I' hc' hS
    rw [e] at this
    exact this
theorem w_way {a : Int32} {K : Int32 → MI → ML → Prop} (hd : 16 ≤ d) (hO : CoO R s P) (hc : CoC I R s P) (h : ∀ I', CoC I' R s P → Same cbS I I' → K (wyO R s a) I' L) : CI d m_W_way [vR 0 0, vI a] I L K := by
  have z0 : (0 : Int32).toInt = 0 := rfl
  unfold wyO at h
  refine toCI (n := 15) hd (r_W_way_0 ⟨fun q => ?_, fun q => ⟨_, rfl, ?_⟩⟩)
  · have a0 : 0 ≤ a.toInt := by have := Int32.le_iff_toInt_le.mp q; omega
    rw [if_pos a0] at h
    have ea := ge_nI a0
    refine c_Br_fewest (by omega) hO hc (fun e I' hc' hS => ⟨fun _ => ⟨_, rfl, ?_⟩, fun z => absurd (Int32.le_iff_toInt_le.mpr (by have : (-1 : Int32).toInt = -1 := rfl; omega)) z⟩) (fun n x e hn I' hc' hx hS => ⟨fun z => ⟨_, rfl, ?_⟩, fun z => ?_⟩)
    · have := h I' hc' hS
      rw [e] at this
      exact this
    · have := h I' hc' hS
      rw [e] at this
      have hz := Int32.le_iff_toInt_le.mp z
      rw [nI_toInt (by omega)] at hz
      have this : K (if a.toInt < (n : Int) then nI (x.getD a.toInt.toNat 0) else -1) I' L := this
      rw [if_neg (by omega)] at this
      exact this
    · have := h I' hc' hS
      rw [e] at this
      have hz := Int32.lt_iff_toInt_lt.mp (Int32.not_le.mp z)
      rw [nI_toInt (by omega)] at hz
      have this : K (if a.toInt < (n : Int) then nI (x.getD a.toInt.toNat 0) else -1) I' L := this
      rw [if_pos hz, ← hx _ (by omega)] at this
      have hb : a.toInt.toNat < 5 := by omega
      generalize a.toInt.toNat = a' at *
      rw [ea]
      refine toCI (n := 0) (by omega) (r_Br_deedAt_0 ⟨fun y => absurd y (nlt0 (by omega)), fun _ => ⟨fun y => absurd y (nle_c (m := 5) hb (by omega)), fun _ => ⟨vin hb (by omega), _, rfl, _, rfl, ?_⟩⟩⟩)
      rw [cl_n (by omega)]
      exact this
  · have a0 : ¬ 0 ≤ a.toInt := fun z => q (Int32.le_iff_toInt_le.mpr (by omega))
    have := h I hc Same.rf
    rw [if_neg a0] at this
    exact this
end Soon

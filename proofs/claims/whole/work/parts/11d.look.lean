/-! looking: coach, waiting, by, forWhich, late, sets -/
def coO (R : RD) (s : SA) (a w : Int32) : Int32 := if 0 ≤ a.toInt ∧ a.toInt < rC R then (if w = 0 then rh R a.toInt.toNat else if w = 1 then rp R a.toInt.toNat else if w = 2 then s.1 a.toInt.toNat else if w = 3 then s.2.1 a.toInt.toNat else if w = 4 then s.2.2.1 a.toInt.toNat else -2) else -2
def wtO (R : RD) (s : SA) (a w : Int32) : Int32 := if 0 ≤ a.toInt ∧ a.toInt < rW R then (if w = 0 then nI (rf R a.toInt.toNat) else if w = 1 then nI (rt R a.toInt.toNat) else if w = 2 then nI (rl R a.toInt.toNat) else if w = 3 then tmO R s.2.2.2.1 a.toInt.toNat else -2) else -2
def isC (R : RD) (a : Int32) : Prop := 0 ≤ a.toInt ∧ a.toInt < rC R
def isD (R : RD) (a : Int32) : Prop := 0 ≤ a.toInt ∧ a.toInt ≤ rW R
section Look
variable {d : Nat} {I : MI} {L : ML} {R : RD} {s : SA} {P : List SA}
theorem w_coach {a w : Int32} {K : Int32 → MI → ML → Prop} (hd : 2 ≤ d) (hO : CoO R s P) (hc : CoC I R s P) (h : K (coO R s a w) I L) : CI d m_W_coach [vR 0 0, vI a, vI w] I L K := by
  have hR := hO.1
  have hC := hR.1
  unfold coO at h
  refine toCI (n := 1) hd (r_W_coach_0 (c_W_isCoach (by omega) hR hc.1 (fun g1 g2 => ⟨fun _ => ?_, fun q => absurd (by decide) q⟩) (fun g => ⟨fun q => absurd rfl q, fun _ => ⟨_, rfl, by rw [if_neg g] at h; exact h⟩⟩)))
  rw [if_pos ⟨g1, g2⟩] at h
  have e := ge_nI g1
  have hcl : a.toInt.toNat < rC R := by omega
  have hr := hc.1.2.2.2.2.1 _ hcl
  have hs := hc.2.1
  rw [e]
  refine ⟨fun q => c_Road_hourOf (by omega) (by omega) ⟨_, rfl, ?_⟩, fun q => c_Road_patienceOf (by omega) (by omega) ⟨_, rfl, ?_⟩, fun q => c_St_lastOf (by omega) (by omega) ⟨_, rfl, ?_⟩, fun q => c_St_earlierOf (by omega) (by omega) ⟨_, rfl, ?_⟩, fun q => c_St_heldOf (by omega) (by omega) ⟨_, rfl, ?_⟩, fun q => ⟨_, rfl, ?_⟩⟩
  · rw [hr.1]; subst q; exact h
  · rw [hr.2]; subst q; exact h
  · rw [hs.1 _ (by omega)]; subst q; exact h
  · rw [hs.2.1 _ (by omega)]; subst q; exact h
  · rw [hs.2.2.1 _ (by omega)]; subst q; exact h
  · rw [if_neg q.1, if_neg q.2.1, if_neg q.2.2.1, if_neg q.2.2.2.1, if_neg q.2.2.2.2] at h; exact h
theorem m_coach {a w : Int32} {K : Int32 → MI → ML → Prop} (hd : 3 ≤ d) (hO : CoO R s P) (hc : CoM I R s P) (h : K (coO R s a w) (ui I 704 0 0 0) L) : CI d m_M_coach [vR 704 0, vI a, vI w] I L K := by
  have hR := hO.1
  have hC := hR.1
  have ea := Int32.toInt_toInt64 a
  have hc0 : CoM (ui I 704 0 0 0) R s P := CoM_cg hR hc t0_6
  unfold coO at h
  refine toCI (n := 2) hd (r_M_coach_0 (c_M_isCoach (by omega) hR hc0.1 (fun g1 g2 => ⟨fun _ => ?_, fun q => absurd (by decide) q⟩) (fun g => ⟨fun q => absurd rfl q, fun _ => ⟨_, rfl, by rw [ea] at g; rw [if_neg g] at h; exact h⟩⟩)))
  rw [ea] at g1 g2
  rw [if_pos ⟨g1, g2⟩] at h
  have e := ge_nI g1
  have hcl : a.toInt.toNat < rC R := by omega
  have hr := hc0.1.2.2.2.2.1 _ hcl
  have hs := hc0.2.1.1 a.toInt.toNat (by omega)
  have ix : ∀ b : Nat, nI b + a = nI (b + a.toInt.toNat) := fun b => by rw [← nI_add b a.toInt.toNat, ← e]
  have i10 : (10 : Int32) + a = nI (10 + a.toInt.toNat) := ix 10
  have i16 : (16 : Int32) + a = nI (16 + a.toInt.toNat) := ix 16
  have i62 : (62 : Int32) + a = nI (62 + a.toInt.toNat) := ix 62
  have i68 : (68 : Int32) + a = nI (68 + a.toInt.toNat) := ix 68
  have i74 : (74 : Int32) + a = nI (74 + a.toInt.toNat) := ix 74
  rw [i10, i16, i62, i68, i74, cl_n (by omega), cl_n (by omega), cl_n (by omega), cl_n (by omega), cl_n (by omega)]
  have v : ∀ b : Nat, b ≤ 80 → vp_in (nI (b + a.toInt.toNat)) 3552 := fun b hb => vin (by omega) (by omega)
  refine ⟨fun q => ⟨v 10 (by omega), _, rfl, ?_⟩, fun q => ⟨v 16 (by omega), _, rfl, ?_⟩, fun q => ⟨v 62 (by omega), _, rfl, ?_⟩, fun q => ⟨v 68 (by omega), _, rfl, ?_⟩, fun q => ⟨v 74 (by omega), _, rfl, ?_⟩, fun q => ⟨_, rfl, ?_⟩⟩
  · rw [hr.1]; subst q; exact h
  · rw [hr.2]; subst q; exact h
  · rw [hs.1]; subst q; exact h
  · rw [hs.2.1]; subst q; exact h
  · rw [hs.2.2]; subst q; exact h
  · rw [if_neg q.1, if_neg q.2.1, if_neg q.2.2.1, if_neg q.2.2.2.1, if_neg q.2.2.2.2] at h; exact h
theorem c_Road_hasWait {a : Int32} {i : Nat} {K : Int32 → MI → ML → Prop} (hd : 1 ≤ d) (hR : WF R) (hA : RoadA I i R) (h1 : 0 ≤ a.toInt → a.toInt < rW R → K 1 I L) (h0 : ¬ (0 ≤ a.toInt ∧ a.toInt < rW R) → K 0 I L) : CI d m_Road_hasWait [vR 128 i, vI a] I L K := by
  have z0 : (0 : Int32).toInt = 0 := rfl
  have z10 : (10 : Int32).toInt = 10 := rfl
  have hW := hR.2.1
  refine toCI (n := 0) hd (r_Road_hasWait_0 ?_)
  rw [hA.2.1]
  refine ⟨fun q => ⟨_, rfl, h0 (fun z => ?_)⟩, fun q => ⟨fun q2 => ⟨_, rfl, h0 (fun z => ?_)⟩, fun q2 => ⟨fun q3 => ⟨_, rfl, h0 (fun z => ?_)⟩, fun q3 => ⟨_, rfl, h1 ?_ ?_⟩⟩⟩⟩
  · have := Int32.lt_iff_toInt_lt.mp q; omega
  · have := Int32.le_iff_toInt_le.mp q2; rw [nI_toInt (by omega)] at this; omega
  · have := Int32.le_iff_toInt_le.mp q3; omega
  · have := Int32.le_iff_toInt_le.mp (Int32.not_lt.mp q); omega
  · have := Int32.lt_iff_toInt_lt.mp (Int32.not_le.mp q2); rw [nI_toInt (by omega)] at this; omega
theorem CoC_rm {I' : MI} (hc : CoC I R s P) (hG : GoA I' R) (hS : Same rmS I I') : CoC I' R s P := by
  have nn : ∀ r a, ¬ (r = 320 ∨ r = 323 ∨ r = 324 ∨ r = 384 ∨ r = 385 ∨ r = 386) → ¬ rmS r a := fun r a h q => h q.1
  exact ⟨hc.1.same hS (fun r h1 h2 => nn r 0 (by omega)), hc.2.1.same hS (nn _ _ (by decide)) (nn _ _ (by decide)) (nn _ _ (by decide)) (nn _ _ (by decide)), hG, hc.2.2.2.same hS (nn _ _ (by decide)) (fun r a h1 h2 _ _ => nn r a (by omega))⟩
theorem w_waiting {a w : Int32} {K : Int32 → MI → ML → Prop} (hd : 6 ≤ d) (hO : CoO R s P) (hc : CoC I R s P) (h : ∀ I', CoC I' R s P → Same cdS I I' → K (wtO R s a w) I' L) : CI d m_W_waiting [vR 0 0, vI a, vI w] I L K := by
  have hR := hO.1
  have hW := hR.2.1
  obtain ⟨m, hm, em⟩ := hO.2.1.1.2
  have h' := h I hc Same.rf
  unfold wtO at h h'
  refine toCI (n := 5) hd (r_W_waiting_0 (c_Road_hasWait (by omega) hR hc.1 (fun g1 g2 => ⟨fun _ => ?_, fun q => absurd (by decide) q⟩) (fun g => ⟨fun q => absurd rfl q, fun _ => ⟨_, rfl, by rw [if_neg g] at h'; exact h'⟩⟩)))
  rw [if_pos ⟨g1, g2⟩] at h h'
  have e := ge_nI g1
  have hcl : a.toInt.toNat < rW R := by omega
  obtain ⟨f1, f2, f3, f4⟩ := hc.1.2.2.2.2.2.1 _ hcl
  rw [e]
  refine ⟨fun q => c_Road_fromOf (by omega) (by omega) ⟨_, rfl, ?_⟩, fun q => c_Road_toOf (by omega) (by omega) ⟨_, rfl, ?_⟩, fun q => c_Road_lagOf (by omega) (by omega) ⟨_, rfl, ?_⟩, fun q => ?_, fun q => ⟨_, rfl, ?_⟩⟩
  · rw [f1]; subst q; exact h'
  · rw [f2]; subst q; exact h'
  · rw [f4]; subst q; exact h'
  · rw [hc.2.1.2.2.2.1, em]
    refine c_Go_timeOf (by omega) hR hc.1 hc.2.2.1 hcl hm (fun I' hG' hS => ⟨_, rfl, ?_⟩)
    rw [← em]
    subst q
    exact h I' (CoC_rm hc hG' hS) (rm_cd hS)
  · rw [if_neg q.1, if_neg q.2.1, if_neg q.2.2.1, if_neg q.2.2.2] at h'; exact h'
theorem mt_F0 {I I' : MI} (h : Same mtS I I') : mF0 I I' := ⟨h.mono (fun r a q => ⟨by rcases q.1 with z | z <;> omega, q.2⟩), fun j _ => by rw [mt_no h (by decide) (by decide)], fun j _ _ => by rw [mt_no h (by decide) (by decide)]⟩
theorem m_waiting {a w : Int32} {K : Int32 → MI → ML → Prop} (hd : 4 ≤ d) (hO : CoO R s P) (hc : CoM I R s P) (h : ∀ I', CoM I' R s P → mFr I I' → K (wtO R s a w) I' L) : CI d m_M_waiting [vR 704 0, vI a, vI w] I L K := by
  have hR := hO.1
  have hW := hR.2.1
  obtain ⟨m, hm, em⟩ := hO.2.1.1.2
  have hc0 : CoM (ui I 704 0 0 0) R s P := CoM_cg hR hc t0_6
  have h' := h _ hc0 ⟨t0_F, ui_s⟩
  unfold wtO at h h'
  refine toCI (n := 3) hd (r_M_waiting_0 (c_M_isWait (by omega) hR hc0.1 (fun g1 g2 => ⟨fun _ => ?_, fun q => absurd (by decide) q⟩) (fun g => ⟨fun q => absurd rfl q, fun _ => ⟨_, rfl, by rw [if_neg g] at h'; exact h'⟩⟩)))
  rw [if_pos ⟨g1, g2⟩] at h h'
  have e := ge_nI g1
  have hcl : a.toInt.toNat < rW R := by omega
  rw [e]
  refine ⟨fun q => c_M_fromOf (by omega) hR hc0.1 hcl ⟨_, rfl, ?_⟩, fun q => c_M_toOf (by omega) hR hc0.1 hcl ⟨_, rfl, ?_⟩, fun q => c_M_lagOf (by omega) hR hc0.1 hcl ⟨_, rfl, ?_⟩, fun q => ?_, fun q => ⟨_, rfl, ?_⟩⟩
  · subst q; exact h'
  · subst q; exact h'
  · subst q; exact h'
  · rw [hc0.2.1.2.1, em]
    refine c_M_timeOf (by omega) hR hc0.1 hcl hm (fun I' hS => ⟨_, rfl, ?_⟩)
    rw [← em]
    subst q
    exact h I' (CoM_cg hR hc0 (mt_no hS (by decide) (by decide))) ⟨t0_F.tr (mt_F0 hS), by rw [mt_no hS (by decide) (by decide), ui_s]⟩
  · rw [if_neg q.1, if_neg q.2.1, if_neg q.2.2.1, if_neg q.2.2.2] at h'; exact h'
theorem CoC_tu {I' : MI} (hc : CoC I R s P) {i : Nat} (hi : 1 ≤ i) (hi9 : i < 9) (hG : GoA I' R) (hS : Same (tuS i) I I') : CoC I' R s P := by
  have n0 : ∀ r, 256 ≤ r → r ≤ 259 → ¬ tuS i r 0 := fun r h1 h2 q => q.elim (goS_st h1 h2) (fun z => by have := z.2; omega)
  exact ⟨hc.1.same hS (fun r h1 h2 => tuS_road h1 h2), hc.2.1.same hS (n0 _ (by omega) (by omega)) (n0 _ (by omega) (by omega)) (n0 _ (by omega) (by omega)) (n0 _ (by omega) (by omega)), hG, hc.2.2.2.same hS (tuS_pa hi9).1 (tuS_pa hi9).2⟩
theorem st_tu {i : Nat} {I I' : MI} (h : Same (stS i) I I') : Same (tuS i) I I' := h.mono (fun _ _ q => Or.inr q)
theorem c_W_tryRound {a : Int32} {K : MI → ML → Prop} (hd : 6 ≤ d) (hO : CoO R s P) (hc : CoC I R s P) (h : ∀ I', StA I' 2 (trn R s (a - 1)) → (∀ c, c < rC R → I' 327 0 c = csO R s (a - 1) c) → CoC I' R s P → Same cdS I I' → K I' L) : CV d m_W_tryRound [vR 0 0, vI a] I L K := by
  have hR := hO.1
  refine toCV (n := 5) hd (r_W_tryRound_0 (c_St_copy (by omega) (by omega) hc.2.1 (fun I1 hs1 hS1 => ?_)))
  have hG1 := GoA_st hc.2.2.1 hS1
  have hc1 := CoC_tu hc (i := 2) (by omega) (by omega) hG1 (st_tu hS1)
  refine c_Go_turn (by omega) hR hc1.1 hG1 hs1 (by omega) hO.2.1.1 (fun x I2 _ hs2 hG2 hcs hS2 => ⟨rfl, h I2 hs2 hcs (CoC_tu hc1 (by omega) (by omega) hG2 hS2) ((st_cd (by omega) hS1).tr (tu_cd (by omega) hS2))⟩)
theorem w_by {a c : Int32} {K : Int32 → MI → ML → Prop} (hd : 7 ≤ d) (hO : CoO R s P) (hc : CoC I R s P) (h1 : isC R c → isD R a → ∀ I', CoC I' R s P → Same cdS I I' → K (frO R s (a - 1) c.toInt.toNat) I' L) (h2 : ¬ isC R c → K (-2) I L) (h3 : isC R c → ¬ isD R a → K (-5) I L) : CI d m_W_by [vR 0 0, vI a, vI c] I L K := by
  have hR := hO.1
  have hC := hR.1
  have ea := Int32.toInt_toInt64 a
  refine toCI (n := 6) hd (r_W_by_0 (c_W_isCoach (by omega) hR hc.1 (fun g1 g2 => ⟨fun _ => c_W_isRound (by omega) hR hc.1 (fun g3 g4 => ⟨fun _ => ?_, fun q => absurd (by decide) q⟩) (fun g => ⟨fun q => absurd rfl q, fun _ => ⟨_, rfl, h3 ⟨g1, g2⟩ (fun z => g (by rw [ea]; exact z))⟩⟩), fun q => absurd (by decide) q⟩) (fun g => ⟨fun q => absurd rfl q, fun _ => ⟨_, rfl, h2 g⟩⟩)))
  rw [ea] at g3 g4
  refine c_W_tryRound (by omega) hO hc (fun I1 hs1 _ hc1 hS1 => ?_)
  have e := ge_nI g1
  have hcl : c.toInt.toNat < rC R := by omega
  have := h1 ⟨g1, g2⟩ ⟨g3, g4⟩ I1 hc1 hS1
  revert this
  generalize c.toInt.toNat = k at e hcl
  intro this
  rw [e]
  refine c_St_lastOf (by omega) (by omega) ⟨_, rfl, ?_⟩
  rw [hs1.1 _ (by omega)]
  exact this
theorem w_forWhich {a c : Int32} {K : Int32 → MI → ML → Prop} (hd : 7 ≤ d) (hO : CoO R s P) (hc : CoC I R s P) (h1 : isC R c → isD R a → ∀ I', CoC I' R s P → Same cdS I I' → K (csO R s (a - 1) c.toInt.toNat) I' L) (h2 : ¬ isC R c → K (-2) I L) (h3 : isC R c → ¬ isD R a → K (-5) I L) : CI d m_W_forWhich [vR 0 0, vI a, vI c] I L K := by
  have hR := hO.1
  have hC := hR.1
  have ea := Int32.toInt_toInt64 a
  refine toCI (n := 6) hd (r_W_forWhich_0 (c_W_isCoach (by omega) hR hc.1 (fun g1 g2 => ⟨fun _ => c_W_isRound (by omega) hR hc.1 (fun g3 g4 => ⟨fun _ => ?_, fun q => absurd (by decide) q⟩) (fun g => ⟨fun q => absurd rfl q, fun _ => ⟨_, rfl, h3 ⟨g1, g2⟩ (fun z => g (by rw [ea]; exact z))⟩⟩), fun q => absurd (by decide) q⟩) (fun g => ⟨fun q => absurd rfl q, fun _ => ⟨_, rfl, h2 g⟩⟩)))
  rw [ea] at g3 g4
  refine c_W_tryRound (by omega) hO hc (fun I1 hs1 hcs hc1 hS1 => ?_)
  have e := ge_nI g1
  have hcl : c.toInt.toNat < rC R := by omega
  have := h1 ⟨g1, g2⟩ ⟨g3, g4⟩ I1 hc1 hS1
  revert this
  generalize c.toInt.toNat = k at e hcl
  intro this
  rw [e]
  refine c_Go_causeOf (by omega) (by omega) ⟨_, rfl, ?_⟩
  rw [hcs _ hcl]
  exact this
theorem c_M_noRound {a c : Int32} {K : Int32 → MI → ML → Prop} (hd : 3 ≤ d) (hR : WF R) (hM : MRo (I 706 0) R) (h1 : isC R c → isD R a → K 0 I L) (h2 : ¬ isC R c → K (-2) I L) (h3 : isC R c → ¬ isD R a → K (-5) I L) : CI d m_M_noRound [vR 704 0, vI a, vI c] I L K := by
  have ea := Int32.toInt_toInt64 a
  have ec := Int32.toInt_toInt64 c
  refine toCI (n := 2) hd (r_M_noRound_0 (c_M_isCoach (by omega) hR hM (fun g1 g2 => ⟨fun _ => ?_, fun q => absurd (by decide) q⟩) (fun g => ⟨fun q => absurd rfl q, fun _ => ⟨_, rfl, h2 (by rw [ec] at g; exact g)⟩⟩)))
  rw [ec] at g1 g2
  refine c_M_isRound (by omega) hR hM (fun g3 g4 => ⟨fun q => absurd q (by decide), fun _ => ⟨_, rfl, h1 ⟨g1, g2⟩ (by rw [ea] at g3 g4; exact ⟨g3, g4⟩)⟩⟩) (fun g => ⟨fun _ => ⟨_, rfl, h3 ⟨g1, g2⟩ (by rw [ea] at g; exact g)⟩, fun q => absurd rfl q⟩)
theorem CoM_begins {K : MI → ML → Prop} (hd : 5 ≤ d) (hO : CoO R s P) (hc : CoM I R s P) (h : ∀ I', MGr I' R 0 s → I' 706 0 = I 706 0 → I' 704 0 0 = I 704 0 0 → mF0 I I' → K I' L) : CV d m_M_begins [vR 704 0, vI s.2.2.2.1] I L K := by
  obtain ⟨m, hm, em⟩ := hO.2.1.1.2
  rw [em]
  refine c_M_begins hd hO.1 hc.1 hm hc.2.1 (fun I1 hG1 _ ho1 hs1 => ?_)
  have es : ((s.1, s.2.1, s.2.2.1, nI m, s.2.2.2.2) : SA) = s := by rw [← em]
  rw [es] at hG1
  exact h I1 hG1 (gr_no hs1 (by decide)) (ho1 0 (by decide) (by decide)) (gr_F0 hs1 ho1)
theorem gs_F0 {I I' : MI} (h : Same gsS I I') (ho : ofl I I') : mF0 I I' := gr_F0 (gs_gr h) ho
theorem m_by {a c : Int32} {K : Int32 → MI → ML → Prop} (hd : 6 ≤ d) (hO : CoO R s P) (hc : CoM I R s P) (h1 : isC R c → isD R a → ∀ I', CoM I' R s P → mFr I I' → K (frO R s (a - 1) c.toInt.toNat) I' L) (h2 : ¬ isC R c → K (-2) (ui I 704 0 0 0) L) (h3 : isC R c → ¬ isD R a → K (-5) (ui I 704 0 0 0) L) : CI d m_M_by [vR 704 0, vI a, vI c] I L K := by
  have hR := hO.1
  have hC := hR.1
  have hc0 : CoM (ui I 704 0 0 0) R s P := CoM_cg hR hc t0_6
  refine toCI (n := 5) hd (r_M_by_0 (c_M_noRound (by omega) hR hc0.1 (fun g1 g2 => ⟨fun _ => ?_, fun q => absurd rfl q⟩) (fun g => ⟨fun q => absurd q (by decide), fun _ => ⟨_, rfl, h2 g⟩⟩) (fun g1 g2 => ⟨fun q => absurd q (by decide), fun _ => ⟨_, rfl, h3 g1 g2⟩⟩)))
  rw [hc0.2.1.2.1]
  refine CoM_begins (by omega) hO hc0 (fun I1 hG1 n1 t1 hF1 => ?_)
  refine c_M_goes (r := 0) (by omega) hR (by rw [n1]; exact hc0.1) (by omega) hG1 (hO.2.1.1.mono (by omega)) (fun I2 hG2 _ ho2 hs2 => ?_)
  have n2 : I2 706 0 = (ui I 704 0 0 0) 706 0 := (gs_no hs2 (by decide)).trans n1
  have hcl : c.toInt.toNat < rC R := by have := g1.1; have := g1.2; omega
  have e := ge_nI g1.1
  have := h1 g1 g2 I2 (CoM_cg hR hc0 n2) ⟨(t0_F.tr hF1).tr (gs_F0 hs2 ho2), by rw [ho2 0 (by decide) (by decide), t1, ui_s]⟩
  revert this
  generalize c.toInt.toNat = k at e hcl
  intro this
  rw [e]
  refine c_M_lateAt (r := 1) (by omega) (by omega) (by omega) ⟨_, rfl, ?_⟩
  have e2 := (hG2.1 k hcl).1
  rw [show 6 * (1 + 1) + k = 6 * (0 + 1 + 1) + k from rfl, e2]
  exact this
theorem m_forWhich {a c : Int32} {K : Int32 → MI → ML → Prop} (hd : 6 ≤ d) (hO : CoO R s P) (hc : CoM I R s P) (h1 : isC R c → isD R a → ∀ I', CoM I' R s P → mFr I I' → K (csO R s (a - 1) c.toInt.toNat) I' L) (h2 : ¬ isC R c → K (-2) (ui I 704 0 0 0) L) (h3 : isC R c → ¬ isD R a → K (-5) (ui I 704 0 0 0) L) : CI d m_M_forWhich [vR 704 0, vI a, vI c] I L K := by
  have hR := hO.1
  have hC := hR.1
  have hc0 : CoM (ui I 704 0 0 0) R s P := CoM_cg hR hc t0_6
  refine toCI (n := 5) hd (r_M_forWhich_0 (c_M_noRound (by omega) hR hc0.1 (fun g1 g2 => ⟨fun _ => ?_, fun q => absurd rfl q⟩) (fun g => ⟨fun q => absurd q (by decide), fun _ => ⟨_, rfl, h2 g⟩⟩) (fun g1 g2 => ⟨fun q => absurd q (by decide), fun _ => ⟨_, rfl, h3 g1 g2⟩⟩)))
  rw [hc0.2.1.2.1]
  refine CoM_begins (by omega) hO hc0 (fun I1 hG1 n1 t1 hF1 => ?_)
  obtain ⟨hrow, hheld, m, hm, em, h21, ht⟩ := hG1
  have hS := hO.2.1.1.mono (show 9 ≤ 1000 by omega)
  have hcl : c.toInt.toNat < rC R := by have := g1.1; have := g1.2; omega
  have e := ge_nI g1.1
  have fin := h1 g1 g2
  revert fin
  generalize c.toInt.toNat = q0 at e hcl
  intro fin
  subst e
  have key : ∀ (l k : Nat) (J : MI), k + l = q0 + 1 → (∀ j, j < k → J 724 0 (12 + j) = fsh R s (a - 1) k j) → (∀ j, j < 12 → J 724 0 j = I1 724 0 j) → (∀ j, J 725 0 j = I1 725 0 j) → (∀ j, J 723 0 j = I1 723 0 j) → J 706 0 = I1 706 0 → J 704 0 21 = nI m → (1 ≤ k → J 704 0 22 = csO R s (a - 1) (k - 1)) → J 704 0 0 = 0 → mF0 I J → XX (5 + 1) m_M_forWhich (fun r I' L' => ∃ x, r = some (vI x) ∧ K x I' L') 32 [vR 704 0, vI a, vI (nI q0), vD, vI (nI k)] [] J L := by
    intro l
    induction l with
    | zero =>
      intro k J hk _ _ _ _ j6 _ j22 jt jF
      refine r_M_forWhich_32 ⟨fun _ => ⟨_, rfl, ?_⟩, fun q => absurd (nI_lt (show q0 < k by omega) (by omega)) q⟩
      rw [j22 (by omega), show k - 1 = q0 by omega]
      exact fin J (CoM_cg hR hc0 (j6.trans n1)) ⟨jF, jt⟩
    | succ l ih =>
      intro k J hk hfr hlo j25 j23 j6 j21 _ jt jF
      refine r_M_forWhich_32 ⟨fun q => absurd q (nI_nlt (show k ≤ q0 by omega) (by omega)), fun _ => ?_⟩
      have hkR : k < rC R := by omega
      have e25 : J 725 0 k = s.2.2.1 k := by rw [j25]; exact hheld k hkR
      refine c_M_lateIn (r := 0) (s := s) (m := m) (fr := fsh R s (a - 1) k) (by omega) hR (by rw [j6, n1]; exact hc0.1) hm j21 (fun w hw => by rw [j23]; exact ht w hw) (by omega) hkR (fun b hb => ⟨by rw [hlo _ (by omega)]; exact (hrow b hb).1, by rw [hlo _ (by omega)]; exact (hrow b hb).2⟩) (fun b hb => hfr b hb) (fun b hb => fsh_rg hR (Nat.le_refl _) hS k (by omega) b hb) (fun b hb => ⟨(hS.1 b hb).1, (hS.1 b hb).2.1⟩) (by rw [e25]; exact (hS.1 k hkR).2.2) (fun J1 k22 k21 ho1 hs1 => ?_)
      have e12 : (12 : Int32) + nI k = nI (12 + k) := nI_add 12 k
      rw [e12, cl_n (by omega), nI_1]
      have k24 : J1 724 0 = J 724 0 := li_no hs1 (by decide) (by decide) (by decide)
      have k25 : J1 725 0 = J 725 0 := li_no hs1 (by decide) (by decide) (by decide)
      have k23 : J1 723 0 = J 723 0 := li_no hs1 (by decide) (by decide) (by decide)
      have k6 : J1 706 0 = J 706 0 := li_no hs1 (by decide) (by decide) (by decide)
      refine ⟨vin (by omega) (by omega), ih (k + 1) _ (by omega) (fun b hb => ?_) (fun b hb => ?_) (fun b => by rw [ui_r (by decide), k25]; exact j25 b) (fun b => by rw [ui_r (by decide), k23]; exact j23 b) (by rw [ui_off (by decide), k6]; exact j6) (by rw [ui_r (by decide)]; exact k21) (fun _ => ?_) (by rw [ui_r (by decide), ho1 0 (by decide) (by decide)]; exact jt) (jF.tr (gr_F0 ((li_gr hs1).ui ⟨by simp, rfl⟩) (fun j x y => by rw [ui_r (by decide)]; exact ho1 j x y)))⟩
      · by_cases z : b = k
        · subst z
          rw [ui_s, fsh_at, em, e25]
        · rw [ui_k (by omega), k24, fsh_up (by omega)]
          exact hfr b (by omega)
      · rw [ui_k (by omega), k24]; exact hlo b hb
      · rw [ui_r (by decide), k22, ← em]; rfl
  exact key (q0 + 1) 0 I1 (by omega) (fun j hj => by omega) (fun j _ => rfl) (fun j => rfl) (fun j => rfl) rfl h21 (fun z => by omega) (by rw [t1, ui_s]) (t0_F.tr hF1)
end Look

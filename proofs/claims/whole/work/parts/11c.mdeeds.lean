/-! deeds, of the reference -/
def mdS : Nat → Nat → Prop := fun r a => (r = 704 ∨ r = 706 ∨ (721 ≤ r ∧ r ≤ 739)) ∧ a = 0
/-- what the reference leaves as it was -/
def mF0 (I I' : MI) : Prop := Same mdS I I' ∧ (∀ j, j < 62 ∨ 283 ≤ j → I' 706 0 j = I 706 0 j) ∧ (∀ j, j ≠ 0 → j < 21 → I' 704 0 j = I 704 0 j)
def mFr (I I' : MI) : Prop := mF0 I I' ∧ I' 704 0 0 = 0
theorem mF0.tr {I I' I'' : MI} (h : mF0 I I') (h' : mF0 I' I'') : mF0 I I'' := ⟨h.1.tr h'.1, fun j q => (h'.2.1 j q).trans (h.2.1 j q), fun j a b => (h'.2.2 j a b).trans (h.2.2 j a b)⟩
theorem mF0.rf {I : MI} : mF0 I I := ⟨Same.rf, fun _ _ => rfl, fun _ _ _ => rfl⟩
theorem rd_md {I I' : MI} (h : Same rdM I I') : Same mdS I I' := h.mono (fun r a q => ⟨by rcases q.1 with z | z | z | z | z | z | z <;> omega, q.2⟩)
theorem gr_md {I I' : MI} (h : Same grS I I') : Same mdS I I' := h.mono (fun r a q => ⟨by rcases q.1 with z | z | z | z | z | z <;> omega, q.2⟩)
theorem ofl.lo {I I' : MI} (h : ofl I I') : ∀ j, j ≠ 0 → j < 21 → I' 704 0 j = I 704 0 j := fun j _ b => h j (by omega) (by omega)
theorem gr_F0 {I I' : MI} (h : Same grS I I') (ho : ofl I I') : mF0 I I' := ⟨gr_md h, fun j _ => by rw [gr_no h (by decide)], ho.lo⟩
theorem t0_F {I : MI} : mF0 I (ui I 704 0 0 0) := ⟨Same.rf.ui ⟨Or.inl rfl, rfl⟩, fun j _ => by rw [ui_r (by decide)], fun j a _ => ui_k a⟩
theorem t0_6 {I : MI} : ui I 704 0 0 0 706 0 = I 706 0 := ui_off (by decide)
theorem n6_F {I I' : MI} (h : Same (fun r a => r = 706 ∧ a = 0) I I') (h2 : ∀ j, j < 62 ∨ 283 ≤ j → I' 706 0 j = I 706 0 j) : mF0 I I' := ⟨h.mono (fun r a q => ⟨Or.inr (Or.inl q.1), q.2⟩), h2, fun j _ _ => by rw [h 704 0 (fun q => absurd q.1 (by decide))]⟩
theorem n8_F {I I' : MI} (h : Same (fun r a => r = 728 ∧ a = 0) I I') : mF0 I I' := ⟨h.mono (fun r a q => ⟨Or.inr (Or.inr (by omega)), q.2⟩), fun j _ => by rw [h 706 0 (fun q => absurd q.1 (by decide))], fun j _ _ => by rw [h 704 0 (fun q => absurd q.1 (by decide))]⟩
section MDeed
variable {d : Nat} {I : MI} {L : ML} {R : RD} {s : SA} {P : List SA}
/-- a round from stored numbers on -/
theorem c_M_round1 {out : Int32} {K : MI → ML → Prop} (hd : 6 ≤ d) (hR : WF R) (hok : OkS R s) (hc : CoM I R s P) (h : ∀ I', CoM I' R (trn R s out) P → I' 728 0 = I 728 0 → I' 704 0 0 = I 704 0 0 → mF0 I I' → K I' L) : CV d m_M_goesRound [vR 704 0, vI out] I L K := by
  refine c_M_goesRound hd hR hc.1 hc.2.1 (hok.1.mono (by omega)) (fun I' hs hj ho hS => ?_)
  have hF : mF0 I I' := ⟨rd_md hS, fun j q => hj j (by omega), ho.lo⟩
  exact h I' ⟨MRo_cg hR hc.1 (fun j q => hj j (by omega)), hs, MPa_cg hc.2.2 (fun j h1 _ => hj j (by omega))⟩ (hS 728 0 (fun q => by rcases q.1 with z | z | z | z | z | z | z <;> omega)) (ho 0 (by decide) (by decide)) hF
theorem CoM_cg {I' : MI} (hR : WF R) (h : CoM I R s P) (e : I' 706 0 = I 706 0) : CoM I' R s P := by unfold CoM; rw [e]; exact h
theorem CoM_notes {t : SA} {K : MI → ML → Prop} (hd : 1 ≤ d) (hR : WF R) (hc : CoM I R t P) (hw : s20 (I 728 0) s) (h : ∀ I', CoM I' R t (pusL P s) → I' 728 0 = I 728 0 → I' 704 0 0 = I 704 0 0 → mF0 I I' → K I' L) : CV d m_M_notes [vR 704 0] I L K := by
  refine c_M_notes hd hc.2.2 hw (fun I' hP hj hS => ?_)
  exact h I' ⟨MRo_cg hR hc.1 (fun j q => hj j (by omega)), MSt_cg hc.2.1 (fun j _ h2 => hj j (by omega)), hP⟩ (hS 728 0 (fun q => absurd q.1 (by decide))) (by rw [hS 704 0 (fun q => absurd q.1 (by decide))]) (n6_F hS (fun j q => hj j (by omega)))
theorem CoM_stores {K : MI → ML → Prop} (hd : 1 ≤ d) (hR : WF R) (hc : CoM I R s P) (h : ∀ I', CoM I' R s P → s20 (I' 728 0) s → I' 704 0 0 = I 704 0 0 → mF0 I I' → K I' L) : CV d m_M_stores [vR 704 0] I L K := by
  refine c_M_stores hd (fun I' hj hS => ?_)
  have n6 : I' 706 0 = I 706 0 := hS 706 0 (fun q => absurd q.1 (by decide))
  exact h I' (CoM_cg hR hc n6) ((MSt_20.mp hc.2.1).cg (fun j q => hj j q)) (by rw [hS 704 0 (fun q => absurd q.1 (by decide))]) (n8_F hS)
theorem m_round {a : Int32} {K : Int32 → MI → ML → Prop} (hd : 7 ≤ d) (hO : CoO R s P) (hc : CoM I R s P) (h1 : 0 ≤ a.toInt → a.toInt ≤ rW R → ∀ I', CoM I' R (trn R s (a - 1)) (pusL P s) → mFr I I' → K (cntW (whoN (trn R s (a - 1)).1 6)) I' L) (h0 : ¬ (0 ≤ a.toInt ∧ a.toInt ≤ rW R) → K (-11) (ui I 704 0 0 0) L) : CI d m_M_round [vR 704 0, vI a] I L K := by
  have hR := hO.1
  have ea := Int32.toInt_toInt64 a
  have hc0 : CoM (ui I 704 0 0 0) R s P := CoM_cg hR hc t0_6
  refine toCI (n := 6) hd (r_M_round_0 (c_M_isRound (by omega) hR hc0.1 (fun g1 g2 => ⟨fun _ => ?_, fun q => absurd (by decide) q⟩) (fun g => ⟨fun q => absurd rfl q, fun _ => ⟨_, rfl, h0 (by rw [ea] at g; exact g)⟩⟩)))
  rw [ea] at g1 g2
  refine CoM_stores (by omega) hR hc0 (fun I1 hc1 hw1 ht1 hF1 => c_M_round1 (by omega) hR hO.2.1 hc1 (fun I2 hc2 hw2 ht2 hF2 => CoM_notes (s := s) (by omega) hR hc2 (by rw [hw2]; exact hw1) (fun I3 hc3 _ ht3 hF3 => ?_)))
  have hz := (trn_Ok hR (out := a - 1) hO.2.1).2
  refine c_M_whoNow (by omega) hR hc3.1 hc3.2.1 hz (c_M_cnt (by omega) ⟨_, rfl, h1 g1 g2 I3 hc3 ⟨((t0_F.tr hF1).tr hF2).tr hF3, ?_⟩⟩)
  rw [ht3, ht2, ht1, ui_s]
theorem m_rounds {a : Int32} {K : Int32 → MI → ML → Prop} (hd : 7 ≤ d) (hO : CoO R s P) (hc : CoM I R s P) (h1 : ∀ n : Nat, 1 ≤ n → n ≤ 99 → a = nI n → ∀ I', CoM I' R (itN R s n) (pusL P s) → mFr I I' → K (cntW (whoN (itN R s n).1 6)) I' L) (h0 : ¬ (1 ≤ a.toInt ∧ a.toInt ≤ 99) → K (-3) (ui I 704 0 0 0) L) : CI d m_M_rounds [vR 704 0, vI a] I L K := by
  have hR := hO.1
  have ea := Int32.toInt_toInt64 a
  have o1 : (1 : Int64).toInt = 1 := rfl
  have o99 : (99 : Int64).toInt = 99 := rfl
  have hc0 : CoM (ui I 704 0 0 0) R s P := CoM_cg hR hc t0_6
  refine toCI (n := 6) hd (r_M_rounds_0 (c_M_within (by omega) (fun g1 g2 => ⟨fun _ => ?_, fun q => absurd (by decide) q⟩) (fun g => ⟨fun q => absurd rfl q, fun _ => ⟨_, rfl, h0 (fun z => g (by rw [ea, o1, o99]; exact z))⟩⟩)))
  rw [ea, o1] at g1
  rw [ea, o99] at g2
  have en := ge_nI (a := a) (by omega)
  refine CoM_stores (by omega) hR hc0 (fun I1 hc1 hw1 ht1 hF1 => ?_)
  have key : ∀ (l k : Nat) (J : MI), k + l = a.toInt.toNat → CoM J R (itN R s k) P → J 728 0 = I1 728 0 → J 704 0 0 = I1 704 0 0 → mF0 I1 J → XX (6 + 1) m_M_rounds (fun r I' L' => ∃ x, r = some (vI x) ∧ K x I' L') 26 [vR 704 0, vI a, vI (nI k)] [] J L := by
    intro l
    induction l with
    | zero =>
      intro k J hk hcJ hwJ htJ hFJ
      refine r_M_rounds_26 ⟨fun _ => ?_, fun q => absurd (show a ≤ nI k by rw [en]; exact nI_le (by omega) (by omega)) q⟩
      refine CoM_notes (s := s) (by omega) hR hcJ (by rw [hwJ]; exact hw1) (fun I3 hc3 _ ht3 hF3 => ?_)
      have ek : k = a.toInt.toNat := by omega
      have hz := (itN_Ok hR hO.2.1 k).2
      refine c_M_whoNow (by omega) hR hc3.1 hc3.2.1 hz (c_M_cnt (by omega) ⟨_, rfl, ?_⟩)
      rw [ek]
      rw [ek] at hc3
      exact h1 _ (by omega) (by omega) en I3 hc3 ⟨((t0_F.tr hF1).tr hFJ).tr hF3, by rw [ht3, htJ, ht1, ui_s]⟩
    | succ l ih =>
      intro k J hk hcJ hwJ htJ hFJ
      refine r_M_rounds_26 ⟨fun q => absurd q (by rw [en]; exact nI_ge (by omega) (by omega)), fun _ => ?_⟩
      refine c_M_round1 (by omega) hR (itN_Ok hR hO.2.1 k) hcJ (fun I2 hc2 hw2 ht2 hF2 => ?_)
      rw [nI_1]
      exact ih (k + 1) I2 (by omega) hc2 (hw2.trans hwJ) (ht2.trans htJ) (hFJ.tr hF2)
  exact key a.toInt.toNat 0 I1 (by omega) hc1 rfl rfl mF0.rf
theorem MSt_hold {f : Nat → Int32} {c : Nat} {x : Int32} (h : MSt f s) (hc : c < 6) : MSt (fun j => if j = 74 + c then x else f j) (hldS s c x) := by
  refine ⟨fun k hk => ⟨?_, ?_, ?_⟩, ?_, ?_⟩
  · show (if 62 + k = 74 + c then x else f (62 + k)) = s.1 k
    rw [if_neg (by omega)]; exact (h.1 k hk).1
  · show (if 68 + k = 74 + c then x else f (68 + k)) = s.2.1 k
    rw [if_neg (by omega)]; exact (h.1 k hk).2.1
  · show (if 74 + k = 74 + c then x else f (74 + k)) = if k = c then x else s.2.2.1 k
    by_cases q : k = c
    · rw [if_pos (by omega), if_pos q]
    · rw [if_neg (by omega), if_neg q]; exact (h.1 k hk).2.2
  · show (if 80 = 74 + c then x else f 80) = s.2.2.2.1
    rw [if_neg (by omega)]; exact h.2.1
  · show (if 81 = 74 + c then x else f 81) = s.2.2.2.2
    rw [if_neg (by omega)]; exact h.2.2
theorem CoM_hold {c : Nat} {x : Int32} (hR : WF R) (h : CoM I R s P) (hc : c < 6) : CoM (ui I 706 0 (74 + c) x) R (hldS s c x) P := by
  have e : ∀ j, j ≠ 74 + c → ui I 706 0 (74 + c) x 706 0 j = I 706 0 j := fun j hj => ui_k hj
  refine ⟨MRo_cg hR h.1 (fun j q => e j (by omega)), MSt_cg (MSt_hold h.2.1 hc) (fun j _ _ => ?_), MPa_cg h.2.2 (fun j q _ => e j (by omega))⟩
  show ui I 706 0 (74 + c) x 706 0 j = if j = 74 + c then x else I 706 0 j
  by_cases q : j = 74 + c
  · rw [if_pos q, q, ui_s]
  · rw [if_neg q, ui_k q]
theorem CoM_mud {x : Int32} (hR : WF R) (h : CoM I R s P) : CoM (ui I 706 0 80 x) R (mudS s x) P := by
  have e : ∀ j, j ≠ 80 → ui I 706 0 80 x 706 0 j = I 706 0 j := fun j hj => ui_k hj
  refine ⟨MRo_cg hR h.1 (fun j q => e j (by omega)), ⟨fun k hk => ?_, by rw [ui_s]; rfl, by rw [e _ (by omega)]; exact h.2.1.2.2⟩, MPa_cg h.2.2 (fun j q _ => e j (by omega))⟩
  rw [e _ (by omega), e _ (by omega), e _ (by omega)]
  exact h.2.1.1 k hk
theorem u6_F {j : Nat} {x : Int32} (h1 : 62 ≤ j) (h2 : j < 283) : mF0 I (ui I 706 0 j x) := n6_F (Same.rf.ui ⟨rfl, rfl⟩) (fun k q => ui_k (by omega))
theorem m_hold {a n : Int32} {K : Int32 → MI → ML → Prop} (hd : 3 ≤ d) (hO : CoO R s P) (hc : CoM I R s P) (h1 : ∀ c : Nat, c < rC R → a = nI c → 0 ≤ n.toInt → n.toInt ≤ 9 → ∀ I', CoM I' R (hldS s c n) (pusL P s) → mFr I I' → K (s.2.2.1 c) I' L) (h0 : ¬ ((0 ≤ a.toInt ∧ a.toInt < rC R) ∧ 0 ≤ n.toInt ∧ n.toInt ≤ 9) → K (-11) (ui I 704 0 0 0) L) : CI d m_M_hold [vR 704 0, vI a, vI n] I L K := by
  have hR := hO.1
  have hC := hR.1
  have ea := Int32.toInt_toInt64 a
  have en := Int32.toInt_toInt64 n
  have o0 : (0 : Int64).toInt = 0 := rfl
  have o9 : (9 : Int64).toInt = 9 := rfl
  have hc0 : CoM (ui I 704 0 0 0) R s P := CoM_cg hR hc t0_6
  refine toCI (n := 2) hd (r_M_hold_0 (c_M_isCoach (by omega) hR hc0.1 (fun g1 g2 => ⟨fun q => absurd q (by decide), fun _ => c_M_within (by omega) (fun g3 g4 => ⟨fun _ => ?_, fun q => absurd (by decide) q⟩) (fun g => ⟨fun q => absurd rfl q, fun _ => ⟨_, rfl, h0 (fun z => g (by rw [en, o0, o9]; exact z.2))⟩⟩)⟩) (fun g => ⟨fun _ => ⟨_, rfl, h0 (fun z => g (by rw [ea]; exact z.1))⟩, fun q => absurd rfl q⟩)))
  rw [ea] at g1 g2
  rw [en, o0] at g3
  rw [en, o9] at g4
  have e1 := ge_nI g1
  have hcl : a.toInt.toNat < rC R := by omega
  refine CoM_stores (by omega) hR hc0 (fun I1 hc1 hw1 ht1 hF1 => ?_)
  have e74 : (74 : Int32) + a = nI (74 + a.toInt.toNat) := by rw [← nI_add 74 a.toInt.toNat, ← e1]; rfl
  have e12 : (12 : Int32) + a = nI (12 + a.toInt.toNat) := by rw [← nI_add 12 a.toInt.toNat, ← e1]; rfl
  rw [e74, e12, cl_n (by omega), cl_n (by omega)]
  refine ⟨vin (by omega) (by omega), CoM_notes (s := s) (by omega) hR (CoM_hold hR hc1 (by omega)) (by rw [ui_off (by decide)]; exact hw1) (fun I2 hc2 hw2 ht2 hF2 => ⟨vin (by omega) (by omega), _, rfl, ?_⟩)⟩
  rw [hw2, ui_r (by decide), (hw1.1 _ (by omega)).2.2]
  exact h1 _ hcl e1 g3 g4 I2 hc2 ⟨((t0_F.tr hF1).tr (u6_F (by omega) (by omega))).tr hF2, by rw [ht2, ui_r (by decide), ht1, ui_s]⟩
theorem m_mud {n : Int32} {K : Int32 → MI → ML → Prop} (hd : 3 ≤ d) (hO : CoO R s P) (hc : CoM I R s P) (h1 : ∀ m : Nat, m ≤ 9 → n = nI m → ∀ I', CoM I' R (mudS s n) (pusL P s) → mFr I I' → K s.2.2.2.1 I' L) (h0 : ¬ (0 ≤ n.toInt ∧ n.toInt ≤ 9) → K (-11) (ui I 704 0 0 0) L) : CI d m_M_mud [vR 704 0, vI n] I L K := by
  have hR := hO.1
  have en := Int32.toInt_toInt64 n
  have o0 : (0 : Int64).toInt = 0 := rfl
  have o9 : (9 : Int64).toInt = 9 := rfl
  have hc0 : CoM (ui I 704 0 0 0) R s P := CoM_cg hR hc t0_6
  refine toCI (n := 2) hd (r_M_mud_0 (c_M_within (by omega) (fun g3 g4 => ⟨fun _ => ?_, fun q => absurd (by decide) q⟩) (fun g => ⟨fun q => absurd rfl q, fun _ => ⟨_, rfl, h0 (fun z => g (by rw [en, o0, o9]; exact z))⟩⟩)))
  rw [en, o0] at g3
  rw [en, o9] at g4
  refine CoM_stores (by omega) hR hc0 (fun I1 hc1 hw1 ht1 hF1 => CoM_notes (s := s) (by omega) hR (CoM_mud hR hc1) (by rw [ui_off (by decide)]; exact hw1) (fun I2 hc2 hw2 ht2 hF2 => ⟨_, rfl, ?_⟩))
  rw [hw2, ui_r (by decide), hw1.2.1]
  exact h1 n.toInt.toNat (by omega) (ge_nI g3) I2 hc2 ⟨((t0_F.tr hF1).tr (u6_F (by omega) (by omega))).tr hF2, by rw [ht2, ui_r (by decide), ht1, ui_s]⟩
theorem m_undo {a : Int32} {K : Int32 → MI → ML → Prop} (hd : 2 ≤ d) (hO : CoO R s P) (hc : CoM I R s P) (h1 : ∀ (n : Nat) (h1 : 1 ≤ n) (h2 : n ≤ P.length), a = nI n → ∀ I', CoM I' R (P[P.length - n]'(by omega)) (P.take (P.length - n)) → mFr I I' → K (nI (P.length - n)) I' L) (h0 : ¬ (1 ≤ a.toInt ∧ a.toInt ≤ P.length) → K (-3) (ui I 704 0 0 0) L) : CI d m_M_undo [vR 704 0, vI a] I L K := by
  have hR := hO.1
  have ea := Int32.toInt_toInt64 a
  have o1 : (1 : Int64).toInt = 1 := rfl
  have o10 : (10 : Int64).toInt = 10 := rfl
  have hc0 : CoM (ui I 704 0 0 0) R s P := CoM_cg hR hc t0_6
  obtain ⟨hl, h82, hf⟩ := hc.2.2
  have el := nI_toInt (n := P.length) (by omega)
  have e82 : (ui I 704 0 0 0) 706 0 82 = nI P.length := by rw [t0_6]; exact h82
  refine toCI (n := 1) hd (r_M_undo_0 (c_M_within (by omega) (fun g1 g2 => ⟨fun q => absurd q (by decide), fun _ => ⟨fun q => ?_, fun q => ⟨_, rfl, h0 (fun z => ?_)⟩⟩⟩) (fun g => ⟨fun _ => ⟨_, rfl, h0 (fun z => g (by rw [ea, o1, o10]; omega))⟩, fun q => absurd rfl q⟩)))
  · rw [ea, o1] at g1
    rw [e82] at q ⊢
    have a2 := Int32.le_iff_toInt_le.mp q
    have e1 := ge_nI (a := a) (by omega)
    have hn : a.toInt.toNat ≤ P.length := by omega
    have esub : nI P.length - a = nI (P.length - a.toInt.toNat) := by
      rw [← nI_sub hn, ← e1]
    rw [esub]
    have key : ∀ (l k : Nat) (J : MI), k + l = 20 → (∀ j, j < k → J 706 0 (62 + j) = I 706 0 (83 + 20 * (P.length - a.toInt.toNat) + j)) → J 706 0 82 = nI (P.length - a.toInt.toNat) → (∀ j, j < 62 ∨ 83 ≤ j → J 706 0 j = I 706 0 j) → J 704 0 0 = 0 → mF0 I J → XX (1 + 1) m_M_undo (fun r I' L' => ∃ x, r = some (vI x) ∧ K x I' L') 44 [vR 704 0, vD, vI (nI k)] [] J L := by
      intro l
      induction l with
      | zero =>
        intro k J hk hj j82 ho ht hF
        have ek : k = 20 := by omega
        subst ek
        refine r_M_undo_44 ⟨fun _ => ⟨_, rfl, ?_⟩, fun q => absurd (by decide) q⟩
        rw [j82]
        have elt : (P.take (P.length - a.toInt.toNat)).length = P.length - a.toInt.toNat := by rw [List.length_take]; omega
        refine h1 _ (by omega) hn e1 J ⟨MRo_cg hR hc.1 (fun j q => ho j (by omega)), MSt_20.mpr ((hf _ (by omega)).cg (fun j q => hj j q)), by omega, by rw [elt]; exact j82, fun i hi => ?_⟩ ⟨hF, ht⟩
        rw [List.getElem_take]
        exact (hf i (by omega)).cg (fun j q => ho _ (by omega))
      | succ l ih =>
        intro k J hk hj j82 ho ht hF
        refine r_M_undo_44 ?_
        have e83 : ((83 : Int32) + ((20 : Int32) * nI (P.length - a.toInt.toNat))) + nI k = nI (83 + 20 * (P.length - a.toInt.toNat) + k) := by
          have b1 : (20 : Int32) * nI (P.length - a.toInt.toNat) = nI (20 * (P.length - a.toInt.toNat)) := pk_mul 20 _
          have b2 : (83 : Int32) + nI (20 * (P.length - a.toInt.toNat)) = nI (83 + 20 * (P.length - a.toInt.toNat)) := nI_add 83 _
          rw [b1, b2, nI_add]
        have e62 : (62 : Int32) + nI k = nI (62 + k) := nI_add 62 k
        rw [j82, e83, e62, cl_n (by omega), cl_n (by omega), nI_1]
        refine ⟨fun q => absurd q (nle_c (m := 20) (by omega) (by omega)), fun _ => ⟨vin (by omega) (by omega), vin (by omega) (by omega), ih (k + 1) _ (by omega) (fun j hj' => ?_) (by rw [ui_k (by omega)]; exact j82) (fun j q => by rw [ui_k (by omega)]; exact ho j q) (by rw [ui_r (by decide)]; exact ht) (hF.tr (u6_F (by omega) (by omega)))⟩⟩
        by_cases e : j = k
        · subst e; rw [ui_s]; exact ho _ (by omega)
        · rw [ui_k (by omega)]; exact hj j (by omega)
    refine key 20 0 _ (by omega) (fun j hj => by omega) (by rw [ui_s]) (fun j q => by rw [ui_k (by omega), t0_6]) (by rw [ui_r (by decide), ui_s]) (t0_F.tr (u6_F (by omega) (by omega)))
  · rw [e82] at q
    have a2 := Int32.lt_iff_toInt_lt.mp (Int32.not_le.mp q)
    omega
end MDeed

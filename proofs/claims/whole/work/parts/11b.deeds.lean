/-! deeds, of the program -/
def ddO (R : RD) (s : SA) (v : Int) : Option SA :=
  if 0 ≤ v ∧ v ≤ rW R then some (trn R s (nI v.toNat - 1)) else
  if 20 ≤ v ∧ v ≤ 29 then some (s.1, s.2.1, s.2.2.1, nI (v.toNat - 20), s.2.2.2.2) else
  if 100 ≤ v ∧ v ≤ 199 ∧ (v.toNat - 100) / 10 < rC R then some (s.1, s.2.1, fun c => if c = (v.toNat - 100) / 10 then nI (v.toNat % 10) else s.2.2.1 c, s.2.2.2.1, s.2.2.2.2) else none
theorem dd_tab : ((List.range 200).all fun k => decide ((Int64.ofNat k).toInt = (k : Int)) && decide ((Int64.ofNat k).toInt32 = nI k) && (decide (k < 100) || (decide ((nI k - (100 : Int32)) / (10 : Int32) = nI ((k - 100) / 10)) && decide (nI k % (10 : Int32) = nI (k % 10)) && decide (((Int64.ofNat k - (100 : Int64)) / (10 : Int64)).toInt = (((k - 100) / 10 : Nat) : Int))))) = true := by decide +kernel
theorem dd_of {v : Int64} (h0 : 0 ≤ v.toInt) (h1 : v.toInt < 200) : ∃ k : Nat, k < 200 ∧ v.toInt = k ∧ v.toInt32 = nI k ∧ (100 ≤ k → (nI k - (100 : Int32)) / (10 : Int32) = nI ((k - 100) / 10) ∧ nI k % (10 : Int32) = nI (k % 10) ∧ ((v - (100 : Int64)) / (10 : Int64)).toInt = (((k - 100) / 10 : Nat) : Int)) := by
  have hk : v.toInt.toNat < 200 := by omega
  have ht := List.all_eq_true.mp dd_tab v.toInt.toNat (List.mem_range.mpr hk)
  simp only [Bool.and_eq_true, Bool.or_eq_true, decide_eq_true_eq] at ht
  obtain ⟨⟨t1, t2⟩, t3⟩ := ht
  have ev : v = Int64.ofNat v.toInt.toNat := Int64.toInt_inj.mp (by rw [t1]; omega)
  refine ⟨v.toInt.toNat, hk, by omega, by rw [← t2, ← ev], fun h => ?_⟩
  rcases t3 with z | ⟨⟨z1, z2⟩, z3⟩
  · omega
  · rw [← ev] at z3
    exact ⟨z1, z2, z3⟩
theorem ddO_Ok {R : RD} (hR : WF R) {s t : SA} {v : Int} (h : OkS R s) (e : ddO R s v = some t) : OkS R t := by
  unfold ddO at e
  by_cases h1 : 0 ≤ v ∧ v ≤ rW R
  · rw [if_pos h1] at e
    cases e
    exact trn_Ok hR h
  rw [if_neg h1] at e
  by_cases h2 : 20 ≤ v ∧ v ≤ 29
  · rw [if_pos h2] at e
    cases e
    exact ⟨⟨h.1.1, v.toNat - 20, by omega, rfl⟩, h.2⟩
  rw [if_neg h2] at e
  by_cases h3 : 100 ≤ v ∧ v ≤ 199 ∧ (v.toNat - 100) / 10 < rC R
  · rw [if_pos h3] at e
    cases e
    refine ⟨⟨fun c hc => ⟨(h.1.1 c hc).1, (h.1.1 c hc).2.1, ?_⟩, h.1.2⟩, fun c h4 h5 => ⟨(h.2 c h4 h5).1, (h.2 c h4 h5).2.1, ?_⟩⟩
    · show rg (if c = (v.toNat - 100) / 10 then nI (v.toNat % 10) else s.2.2.1 c) 0 ((9 : Nat) : Int)
      by_cases q : c = (v.toNat - 100) / 10
      · rw [if_pos q]; exact rg_n (by omega) (by omega) (by omega)
      · rw [if_neg q]; exact (h.1.1 c hc).2.2
    · show (if c = (v.toNat - 100) / 10 then nI (v.toNat % 10) else s.2.2.1 c) = 0
      rw [if_neg (by omega)]; exact (h.2 c h4 h5).2.2
  · rw [if_neg h3] at e
    cases e
theorem StA_hold {I : MI} {i c : Nat} {s : SA} {x : Int32} (h : StA I i s) : StA (ui I 259 i c x) i (s.1, s.2.1, fun k => if k = c then x else s.2.2.1 k, s.2.2.2.1, s.2.2.2.2) := by
  refine ⟨fun k hk => by rw [ui_r (by decide)]; exact h.1 k hk, fun k hk => by rw [ui_r (by decide)]; exact h.2.1 k hk, fun k hk => ?_, by rw [ui_r (by decide)]; exact h.2.2.2.1, by rw [ui_r (by decide)]; exact h.2.2.2.2⟩
  show ui I 259 i c x 259 i k = if k = c then x else s.2.2.1 k
  by_cases q : k = c
  · rw [if_pos q, q, ui_s]
  · rw [if_neg q, ui_k q]; exact h.2.2.1 k hk
theorem StA_mud {I : MI} {i : Nat} {s : SA} {x : Int32} (h : StA I i s) : StA (ui I 256 i 3 x) i (s.1, s.2.1, s.2.2.1, x, s.2.2.2.2) :=
  ⟨fun k hk => by rw [ui_r (by decide)]; exact h.1 k hk, fun k hk => by rw [ui_r (by decide)]; exact h.2.1 k hk, fun k hk => by rw [ui_r (by decide)]; exact h.2.2.1 k hk, by rw [ui_s], by rw [ui_k (by decide)]; exact h.2.2.2.2⟩
section Deed
variable {d i : Nat} {I : MI} {L : ML} {R : RD} {s : SA} {P : List SA}
theorem c_W_doDeed {v : Int64} {K : Int32 → MI → ML → Prop} (hd : 6 ≤ d) (hR : WF R) (hA : RoadA I 0 R) (hG : GoA I R) (hs : StA I i s) (hok : OkS R s) (h1 : ∀ t, ddO R s v.toInt = some t → ∀ I', StA I' i t → GoA I' R → Same (tuS i) I I' → K 1 I' L) (h0 : ddO R s v.toInt = none → K 0 I L) : CI d m_W_doDeed [vR 0 0, vR 256 i, vL v] I L K := by
  have hC := hR.1
  have hW := hR.2.1
  have c20 : (20 : Int64).toInt = 20 := rfl
  have c29 : (29 : Int64).toInt = 29 := rfl
  have c100 : (100 : Int64).toInt = 100 := rfl
  have c199 : (199 : Int64).toInt = 199 := rfl
  refine toCI (n := 5) hd (r_W_doDeed_0 ?_)
  refine c_W_isRound (by omega) hR hA (fun g1 g2 => ⟨fun q => absurd q (by decide), fun _ => ?_⟩) (fun g => ⟨fun _ => ?_, fun q => absurd rfl q⟩)
  · obtain ⟨k, hk, e1, e2, e3⟩ := dd_of (v := v) g1 (by omega)
    rw [e2]
    refine c_Go_turn (by omega) hR hA hG hs (by omega) hok.1 (fun x I' hx hs' hG' _ hS => ⟨_, rfl, h1 _ ?_ I' hs' hG' hS⟩)
    unfold ddO
    rw [if_pos ⟨g1, g2⟩, e1]
    rfl
  · have dno : ¬ (20 ≤ v.toInt ∧ v.toInt ≤ 29) → ¬ (100 ≤ v.toInt ∧ v.toInt ≤ 199 ∧ (v.toInt.toNat - 100) / 10 < rC R) → ddO R s v.toInt = none := fun a b => by unfold ddO; rw [if_neg g, if_neg a, if_neg b]
    have tail : ¬ (20 ≤ v.toInt ∧ v.toInt ≤ 29) → ((lg_cmp v (100 : Int64)) < 0 → (∃ x, some (vI 0) = some (vI x) ∧ K x I L)) ∧ (¬ ((lg_cmp v (100 : Int64)) < 0) → (((lg_cmp v (199 : Int64)) ≤ 0 → (CI 5 m_W_isCoach [vR 0 0, vI (((v.toInt32) - (100 : Int32)) / (10 : Int32))] I L (fun x6 I4 L5 => (¬ x6 = 0 → (CV 5 m_St_holdBy [vR 256 i, vI (((v.toInt32) - (100 : Int32)) / (10 : Int32)), vI ((v.toInt32) % (10 : Int32))] I4 L5 (fun I7 L8 => ∃ x, some (vI 1) = some (vI x) ∧ K x I7 L8))) ∧ (¬ (¬ x6 = 0) → (∃ x, some (vI 0) = some (vI x) ∧ K x I4 L5))))) ∧ (¬ ((lg_cmp v (199 : Int64)) ≤ 0) → (∃ x, some (vI 0) = some (vI x) ∧ K x I L)))) := by
      intro hn
      refine ⟨fun q => ⟨_, rfl, h0 (dno hn (fun z => ?_))⟩, fun q => ⟨fun q2 => ?_, fun q2 => ⟨_, rfl, h0 (dno hn (fun z => ?_))⟩⟩⟩
      · have := cmp_lt.mp q; omega
      · have a1 := mt cmp_lt.mpr q
        have a2 := cmp_le.mp q2
        obtain ⟨k, hk, e1, e2, e3⟩ := dd_of (v := v) (by omega) (by omega)
        obtain ⟨t1, t2, t3⟩ := e3 (by omega)
        rw [e2, t1, t2]
        have et : v.toInt.toNat = k := by omega
        have eti := nI_toInt (n := (k - 100) / 10) (by omega)
        refine c_W_isCoach (by omega) hR hA (fun b1 b2 => ⟨fun _ => ?_, fun q => absurd (by decide) q⟩) (fun b => ⟨fun q => absurd rfl q, fun _ => ⟨_, rfl, h0 (dno hn (fun z => b ⟨by omega, ?_⟩))⟩⟩)
        · rw [eti] at b2
          refine c_St_holdBy (by omega) (by omega) ⟨_, rfl, h1 _ ?_ _ (StA_hold hs) (GoA_st (i := i) hG (Same.rf.ui ⟨by simp, rfl⟩)) (Same.rf.ui (Or.inr ⟨by simp, rfl⟩))⟩
          unfold ddO
          rw [if_neg g, if_neg hn, if_pos ⟨by omega, by omega, by omega⟩, et]
        · rw [eti]; have := z.2.2; rw [et] at this; omega
      · have := mt cmp_le.mpr q2; omega
    refine ⟨fun q => tail (fun z => ?_), fun q => ⟨fun q2 => tail (fun z => ?_), fun q2 => ⟨_, rfl, ?_⟩⟩⟩
    · have := cmp_lt.mp q; omega
    · have := cmp_gt.mp q2; omega
    · have a1 := mt cmp_lt.mpr q
      have a2 := mt cmp_gt.mpr q2
      obtain ⟨k, hk, e1, e2, e3⟩ := dd_of (v := v) (by omega) (by omega)
      have e20 : nI k - (20 : Int32) = nI (k - 20) := nI_sub (a := k) (b := 20) (by omega)
      rw [e2, e20]
      refine h1 _ ?_ _ (StA_mud hs) (GoA_st (i := i) hG (Same.rf.ui ⟨by simp, rfl⟩)) (Same.rf.ui (Or.inr ⟨by simp, rfl⟩))
      unfold ddO
      rw [if_neg g, if_pos ⟨by omega, by omega⟩, show v.toInt.toNat = k by omega]
theorem w_round {a : Int32} {K : Int32 → MI → ML → Prop} (hd : 7 ≤ d) (hO : CoO R s P) (hc : CoC I R s P) (h1 : 0 ≤ a.toInt → a.toInt ≤ rW R → ∀ I', CoC I' R (trn R s (a - 1)) (pusL P s) → Same cdS I I' → K (cntW (whoN (trn R s (a - 1)).1 6)) I' L) (h0 : ¬ (0 ≤ a.toInt ∧ a.toInt ≤ rW R) → K (-11) I L) : CI d m_W_round [vR 0 0, vI a] I L K := by
  obtain ⟨hA, hs, hG, hP⟩ := hc
  have hR := hO.1
  have ea := Int32.toInt_toInt64 a
  refine toCI (n := 6) hd (r_W_round_0 (c_W_isRound (by omega) hR hA (fun g1 g2 => ⟨fun _ => ?_, fun q => absurd (by decide) q⟩) (fun g => ⟨fun q => absurd rfl q, fun _ => ⟨_, rfl, h0 (by rw [ea] at g; exact g)⟩⟩)))
  rw [ea] at g1 g2
  have hW := hR.2.1
  refine c_Pa_push (by omega) hP hs (by omega) (fun I1 hP1 hs1 hS1 => ?_)
  have hA1 := hA.same hS1 (fun r h1 h2 => paS_road h1 h2)
  have hG1 := GoA_pa hG hS1
  have edd : ddO R s a.toInt64.toInt = some (trn R s (a - 1)) := by
    unfold ddO
    rw [ea, if_pos ⟨g1, g2⟩, ← ge_nI g1]
  refine c_W_doDeed (by omega) hR hA1 hG1 hs1 hO.2.1 (fun t et I2 hs2 hG2 hS2 => ?_) (fun z => by rw [edd] at z; cases z)
  rw [edd] at et
  cases et
  refine c_St_cnt (by omega) hs2 ⟨_, rfl, h1 g1 g2 I2 ⟨hA1.same hS2 (fun r h1 h2 => tuS_road h1 h2), hs2, hG2, hP1.same hS2 (tuS_pa (by omega)).1 (tuS_pa (by omega)).2⟩ ((pa_cd hS1).tr (tu_cd (by omega) hS2))⟩
theorem w_rounds {a : Int32} {K : Int32 → MI → ML → Prop} (hd : 7 ≤ d) (hO : CoO R s P) (hc : CoC I R s P) (h1 : ∀ n : Nat, 1 ≤ n → n ≤ 99 → a = nI n → ∀ I', CoC I' R (itN R s n) (pusL P s) → Same cdS I I' → K (cntW (whoN (itN R s n).1 6)) I' L) (h0 : ¬ (1 ≤ a.toInt ∧ a.toInt ≤ 99) → K (-3) I L) : CI d m_W_rounds [vR 0 0, vI a] I L K := by
  obtain ⟨hA, hs, hG, hP⟩ := hc
  have hR := hO.1
  have o1 : (1 : Int32).toInt = 1 := rfl
  have o99 : (99 : Int32).toInt = 99 := rfl
  refine toCI (n := 6) hd (r_W_rounds_0 ⟨fun q => ⟨_, rfl, h0 (fun z => ?_)⟩, fun q => ⟨fun q2 => ?_, fun q2 => ⟨_, rfl, h0 (fun z => ?_)⟩⟩⟩)
  · have := Int32.lt_iff_toInt_lt.mp q; omega
  · have a1 := Int32.le_iff_toInt_le.mp (Int32.not_lt.mp q)
    have a2 := Int32.le_iff_toInt_le.mp q2
    have ea := ge_nI (a := a) (by omega)
    refine c_Pa_push (by omega) hP hs (by omega) (fun I1 hP1 hs1 hS1 => ?_)
    rw [ea]
    refine c_Go_go (hb := 9) (by omega) hR (hA.same hS1 (fun r h1 h2 => paS_road h1 h2)) (GoA_pa hG hS1) hs1 (by omega) hO.2.1.1 (by omega) (fun I2 hs2 hG2 hS2 => ?_)
    refine c_St_cnt (by omega) hs2 ⟨_, rfl, h1 a.toInt.toNat (by omega) (by omega) ea I2 ⟨(hA.same hS1 (fun r h1 h2 => paS_road h1 h2)).same hS2 (fun r h1 h2 => tuS_road h1 h2), hs2, hG2, hP1.same hS2 (tuS_pa (by omega)).1 (tuS_pa (by omega)).2⟩ ((pa_cd hS1).tr (tu_cd (by omega) hS2))⟩
  · have := Int32.lt_iff_toInt_lt.mp (Int32.not_le.mp q2); omega
def hldS (s : SA) (c : Nat) (x : Int32) : SA := (s.1, s.2.1, fun k => if k = c then x else s.2.2.1 k, s.2.2.2.1, s.2.2.2.2)
def mudS (s : SA) (x : Int32) : SA := (s.1, s.2.1, s.2.2.1, x, s.2.2.2.2)
theorem CoC_st {I' : MI} {t : SA} (hc : CoC I R s P) (hs : StA I' 0 t) (hS : Same (stS 0) I I') : CoC I' R t P := ⟨hc.1.same hS (fun r h1 h2 => stS_road h1 h2), hs, GoA_st hc.2.2.1 hS, hc.2.2.2.same hS (stS_pa (by omega)).1 (stS_pa (by omega)).2⟩
theorem CoC_pa {I' : MI} {Q : List SA} (hc : CoC I R s P) (hs : StA I' 0 s) (hP : PaA I' Q) (hS : Same paS I I') : CoC I' R s Q := ⟨hc.1.same hS (fun r h1 h2 => paS_road h1 h2), hs, GoA_pa hc.2.2.1 hS, hP⟩
theorem w_hold {a n : Int32} {K : Int32 → MI → ML → Prop} (hd : 3 ≤ d) (hO : CoO R s P) (hc : CoC I R s P) (h1 : ∀ c : Nat, c < rC R → a = nI c → 0 ≤ n.toInt → n.toInt ≤ 9 → ∀ I', CoC I' R (hldS s c n) (pusL P s) → Same cdS I I' → K (s.2.2.1 c) I' L) (h0 : ¬ ((0 ≤ a.toInt ∧ a.toInt < rC R) ∧ 0 ≤ n.toInt ∧ n.toInt ≤ 9) → K (-11) I L) : CI d m_W_hold [vR 0 0, vI a, vI n] I L K := by
  have hR := hO.1
  have hC := hR.1
  have o0 : (0 : Int32).toInt = 0 := rfl
  have o9 : (9 : Int32).toInt = 9 := rfl
  refine toCI (n := 2) hd (r_W_hold_0 (c_W_isCoach (by omega) hR hc.1 (fun g1 g2 => ⟨fun q => absurd q (by decide), fun _ => ⟨fun q => ⟨_, rfl, h0 (fun z => ?_)⟩, fun q => ⟨fun q2 => ?_, fun q2 => ⟨_, rfl, h0 (fun z => ?_)⟩⟩⟩⟩) (fun g => ⟨fun _ => ⟨_, rfl, h0 (fun z => g z.1)⟩, fun q => absurd rfl q⟩)))
  · have := Int32.lt_iff_toInt_lt.mp q; omega
  · have a1 := Int32.le_iff_toInt_le.mp (Int32.not_lt.mp q)
    have a2 := Int32.le_iff_toInt_le.mp q2
    have ea := ge_nI g1
    rw [ea]
    refine c_St_heldOf (by omega) (by omega) (c_Pa_push (by omega) hc.2.2.2 hc.2.1 (by omega) (fun I1 hP1 hs1 hS1 => ?_))
    refine c_St_holdBy (by omega) (by omega) ⟨_, rfl, ?_⟩
    rw [hc.2.1.2.2.1 _ (by omega)]
    have hc1 := CoC_pa hc hs1 hP1 hS1
    exact h1 a.toInt.toNat (by omega) ea (by omega) (by omega) _ (CoC_st hc1 (StA_hold hs1) (Same.rf.ui ⟨by simp, rfl⟩)) ((pa_cd hS1).ui (Or.inl ⟨by simp, by omega⟩))
  · have := Int32.lt_iff_toInt_lt.mp (Int32.not_le.mp q2); omega
theorem w_mud {n : Int32} {K : Int32 → MI → ML → Prop} (hd : 3 ≤ d) (hc : CoC I R s P) (h1 : ∀ m : Nat, m ≤ 9 → n = nI m → ∀ I', CoC I' R (mudS s n) (pusL P s) → Same cdS I I' → K s.2.2.2.1 I' L) (h0 : ¬ (0 ≤ n.toInt ∧ n.toInt ≤ 9) → K (-11) I L) : CI d m_W_mud [vR 0 0, vI n] I L K := by
  have o0 : (0 : Int32).toInt = 0 := rfl
  have o10 : (10 : Int32).toInt = 10 := rfl
  refine toCI (n := 2) hd (r_W_mud_0 ⟨fun q => ⟨_, rfl, h0 (fun z => ?_)⟩, fun q => ⟨fun q2 => ?_, fun q2 => ⟨_, rfl, h0 (fun z => ?_)⟩⟩⟩)
  · have := Int32.lt_iff_toInt_lt.mp q; omega
  · have a1 := Int32.le_iff_toInt_le.mp (Int32.not_lt.mp q)
    have a2 := Int32.lt_iff_toInt_lt.mp q2
    refine c_Pa_push (by omega) hc.2.2.2 hc.2.1 (by omega) (fun I1 hP1 hs1 hS1 => ⟨_, rfl, ?_⟩)
    rw [hc.2.1.2.2.2.1]
    exact h1 n.toInt.toNat (by omega) (ge_nI (by omega)) _ (CoC_st (CoC_pa hc hs1 hP1 hS1) (StA_mud hs1) (Same.rf.ui ⟨by simp, rfl⟩)) ((pa_cd hS1).ui (Or.inl ⟨by simp, by omega⟩))
  · have := Int32.le_iff_toInt_le.mp (Int32.not_lt.mp q2); omega
theorem w_undo {a : Int32} {K : Int32 → MI → ML → Prop} (hd : 3 ≤ d) (hc : CoC I R s P) (h1 : ∀ (n : Nat) (h1 : 1 ≤ n) (h2 : n ≤ P.length), a = nI n → ∀ I', CoC I' R (P[P.length - n]'(by omega)) (P.take (P.length - n)) → Same cdS I I' → K (nI (P.length - n)) I' L) (h0 : ¬ (1 ≤ a.toInt ∧ a.toInt ≤ P.length) → K (-3) I L) : CI d m_W_undo [vR 0 0, vI a] I L K := by
  have o1 : (1 : Int32).toInt = 1 := rfl
  have hl := hc.2.2.2.1
  have el := nI_toInt (n := P.length) (by omega)
  refine toCI (n := 2) hd (r_W_undo_0 ⟨fun q => ⟨_, rfl, h0 (fun z => ?_)⟩, fun q => c_Pa_size (by omega) hc.2.2.2 ⟨fun q2 => ?_, fun q2 => ⟨_, rfl, h0 (fun z => ?_)⟩⟩⟩)
  · have := Int32.lt_iff_toInt_lt.mp q; omega
  · have a1 := Int32.le_iff_toInt_le.mp (Int32.not_lt.mp q)
    have a2 := Int32.le_iff_toInt_le.mp q2
    have ea := ge_nI (a := a) (by omega)
    rw [ea]
    refine c_Pa_back (n := a.toInt.toNat) (by omega) hc.2.2.2 (by omega) (by omega) (by omega) (fun I1 hP1 hs1 hS1 => ?_)
    refine c_Pa_size (by omega) hP1 ⟨_, rfl, ?_⟩
    rw [List.length_take, show min (P.length - a.toInt.toNat) P.length = P.length - a.toInt.toNat by omega]
    have nb : ∀ r k, ¬ (r = 576 ∨ r = 256 ∨ r = 257 ∨ r = 258 ∨ r = 259) → ¬ bkS 0 r k := fun r k h q => h (q.elim (fun z => Or.inl z.1) (fun z => Or.inr z.1))
    have n5 : ∀ r, ¬ (r = 576 ∨ r = 256 ∨ r = 257 ∨ r = 258 ∨ r = 259) → I1 r 0 = I r 0 := fun r hr => hS1 r 0 (nb r 0 hr)
    have e8 : I1 320 0 8 = I 320 0 8 := by rw [n5 320 (by decide)]
    have hG := hc.2.2.1
    have ek : knA I1 R := fun w hw k hk => by rw [n5 328 (by decide)]; exact hG.2.2.2 w hw k hk
    exact h1 _ (by omega) (by omega) ea I1 ⟨hc.1.same hS1 (fun r b1 b2 => nb r 0 (by omega)), hs1, GoA_of hG (n5 325 (by decide)) (fun c _ _ => by rw [n5 326 (by decide)]) e8 (n5 323 (by decide)) (n5 324 (by decide)) ek, hP1⟩ (bk_cd (by omega) hS1)
  · have := Int32.lt_iff_toInt_lt.mp (Int32.not_le.mp q2); omega
end Deed

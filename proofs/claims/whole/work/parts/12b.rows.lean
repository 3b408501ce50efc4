/-! rows of deeds -/
theorem or_tab : ((List.range 10).all fun w => (List.range 1024).all fun k => decide (nI k ||| ((1 : Int32) <<< (nI w &&& 31)) = nI (k ||| 2 ^ w)) && decide (k ||| 2 ^ w < 1024)) = true := by decide +kernel
theorem cbN_lt {R : RD} (hR : WF R) {s : SA} {out : Int32} : ∀ n, ∃ k, k < 1024 ∧ cbN (fun c => csO R s out c) n = nI k := by
  have hW := hR.2.1
  intro n
  induction n with
  | zero => exact ⟨0, by omega, rfl⟩
  | succ n ih =>
    obtain ⟨k, hk, e⟩ := ih
    simp only [cbN]
    rcases cs_in (R := R) (s := s) (out := out) (c := n) with z | ⟨v, hv, _, z⟩
    · rw [if_pos z]; exact ⟨k, hk, e⟩
    · rw [if_neg (by rw [z]; exact nI_m1 (by omega)), e, z]
      have tb := List.all_eq_true.mp (List.all_eq_true.mp or_tab v (List.mem_range.mpr (by omega))) k (List.mem_range.mpr hk)
      simp only [Bool.and_eq_true, decide_eq_true_eq] at tb
      exact ⟨_, tb.2, tb.1⟩
theorem cbN_eq {f g : Nat → Int32} : ∀ n, (∀ c, c < n → f c = g c) → cbN f n = cbN g n
  | 0, _ => rfl
  | n + 1, h => by simp only [cbN]; rw [cbN_eq n (fun c hc => h c (by omega)), h n (by omega)]
def ca1 (R : RD) (s : SA) (w : Nat) : Int32 := if caN R s w = true then 1 else 0
theorem ca_hi {R : RD} (hR : WF R) {s : SA} {w : Nat} (h : rW R ≤ w) (hw : w < 10) : caN R s w = false := by
  have hW := hR.2.1
  cases e : caN R s w with
  | false => rfl
  | true =>
    obtain ⟨c, _, hc⟩ := List.any_eq_true.mp e
    have hc := of_decide_eq_true hc
    rcases cs_in (R := R) (s := s) (out := -1) (c := c) with z | ⟨v, hv, _, z⟩
    · rw [z] at hc; exact absurd hc.symm (nI_m1 (by omega))
    · rw [z] at hc
      have := (nI_eq (by omega) (by omega)).mp hc
      omega
theorem bit_sum {R : RD} (hR : WF R) {s : SA} : ∀ n, n ≤ 10 → bitN (cbN (fun c => csO R s (-1) c) (rC R)) n = sumN (ca1 R s) n := by
  intro n
  induction n with
  | zero => intro _; rfl
  | succ n ih =>
    intro hn
    simp only [bitN, sumN]
    rw [ih (by omega), cb_bit hR (by omega)]
    rfl
theorem cnt_cb {R : RD} (hR : WF R) {s : SA} {k : Nat} (hk : k < 1024) (e : cbN (fun c => csO R s (-1) c) (rC R) = nI k) : nI (popc 10 k) = sumN (ca1 R s) (rW R) := by
  have hW := hR.2.1
  have h1 := of_decide_eq_true (List.all_eq_true.mp bit_pop k (List.mem_range.mpr hk))
  rw [← h1, ← e, bit_sum hR 10 (by omega)]
  have := sumN_z (f := ca1 R s) (C := rW R) (10 - rW R) (fun c h1 h2 => by unfold ca1; rw [ca_hi hR h1 (by omega)]; rfl)
  rw [show rW R + (10 - rW R) = 10 by omega] at this
  exact this
/-- in how many rows of l deeds a coach is in time -/
def rwsN (R : RD) (c : Nat) : Nat → SA → Int32
  | 0, s => if s.1 c = 0 then 1 else 0
  | l + 1, s => sumN (fun d => rwsN R c l (trn R s (nI d - 1))) (rW R + 1)
theorem sum_sh {g : Nat → Int32} : ∀ n, sumN g (n + 1) = g 0 + sumN (fun w => g (w + 1)) n
  | 0 => by show (0 : Int32) + g 0 = g 0 + 0; rw [Int32.zero_add, Int32.add_zero]
  | n + 1 => by
    show sumN g (n + 1) + g (n + 1) = g 0 + (sumN (fun w => g (w + 1)) n + g (n + 1))
    rw [sum_sh n, Int32.add_assoc]
theorem alike {A : Int32} {B h : Nat → Int32} {ca : Nat → Bool} : ∀ n, (∀ w, w < n → h w = if ca w = true then B w else A) → A + sumN h n = (((1 : Int32) + nI n) - sumN (fun w => if ca w = true then 1 else 0) n) * A + sumN (fun w => if ca w = true then B w else 0) n := by
  intro n
  induction n with
  | zero =>
    intro _
    show A + 0 = (((1 : Int32) + nI 0) - 0) * A + 0
    have : ((1 : Int32) + nI 0) - 0 = 1 := by decide
    rw [this, Int32.one_mul]
  | succ n ih =>
    intro hh
    have ih := ih (fun w hw => hh w (by omega))
    simp only [sumN]
    rw [← Int32.add_assoc, ih, hh n (by omega), ← nI_add n 1]
    have e1 : nI 1 = (1 : Int32) := rfl
    rw [e1]
    generalize sumN (fun w => if ca w = true then 1 else 0) n = q
    generalize sumN (fun w => if ca w = true then B w else 0) n = t
    by_cases e : ca n = true
    · rw [if_pos e, if_pos e, if_pos e]
      have : ((1 : Int32) + (nI n + 1)) - (q + 1) = ((1 : Int32) + nI n) - q := by
        rw [Int32.sub_eq_add_neg, Int32.sub_eq_add_neg, Int32.neg_add, Int32.sub_eq_add_neg]
        have e2 : (1 : Int32) + (nI n + 1) + (-q + -1) = ((1 : Int32) + nI n + -q) + (1 + -1) := by ac_rfl
        rw [e2]
        have : (1 : Int32) + -1 = 0 := by decide
        rw [this, Int32.add_zero]
      rw [this, Int32.add_assoc]
    · rw [if_neg e, if_neg e, if_neg e, Int32.add_zero, Int32.add_zero]
      have : ((1 : Int32) + (nI n + 1)) - q = (((1 : Int32) + nI n) - q) + 1 := by
        rw [Int32.sub_eq_add_neg, Int32.sub_eq_add_neg]
        ac_rfl
      rw [this, Int32.add_mul, Int32.one_mul]
      ac_rfl
/-- as the program counts them -/
theorem rws_alt {R : RD} (hR : WF R) {s : SA} {c l : Nat} : rwsN R c (l + 1) s = (((1 : Int32) + nI (rW R)) - sumN (ca1 R s) (rW R)) * rwsN R c l (trn R s (-1)) + sumN (fun w => if caN R s w = true then rwsN R c l (trn R s (nI w)) else 0) (rW R) := by
  have hW := hR.2.1
  show sumN (fun d => rwsN R c l (trn R s (nI d - 1))) (rW R + 1) = _
  rw [sum_sh]
  have e0 : nI 0 - (1 : Int32) = -1 := by decide
  simp only [e0]
  have := alike (A := rwsN R c l (trn R s (-1))) (B := fun w => rwsN R c l (trn R s (nI w))) (h := fun w => rwsN R c l (trn R s (nI (w + 1) - 1))) (ca := caN R s) (rW R) (fun w hw => ?_)
  · exact this
  · have e1 : nI (w + 1) - (1 : Int32) = nI w := nI_sub (a := w + 1) (b := 1) (by omega)
    show rwsN R c l (trn R s (nI (w + 1) - 1)) = _
    rw [e1]
    by_cases e : caN R s w = true
    · rw [if_pos e]
    · rw [if_neg e, caN_no hR (by omega) (by simpa using e)]
def lvS (i : Nat) : Nat → Nat → Prop := fun r a => goS r a ∨ ((r = 256 ∨ r = 257 ∨ r = 258 ∨ r = 259) ∧ i < a ∧ a ≤ 8)
theorem lv_tu {i k : Nat} (h1 : i < k) (h2 : k ≤ 8) {I I' : MI} (h : Same (tuS k) I I') : Same (lvS i) I I' := h.mono (fun r a q => q.elim Or.inl (fun z => Or.inr ⟨z.1, by rw [z.2]; exact h1, by rw [z.2]; exact h2⟩))
theorem lv_lv {i k : Nat} (h1 : i ≤ k) {I I' : MI} (h : Same (lvS k) I I') : Same (lvS i) I I' := h.mono (fun r a q => q.elim Or.inl (fun z => Or.inr ⟨z.1, by omega, z.2.2⟩))
theorem lv_road {i r k : Nat} (h1 : 128 ≤ r) (h2 : r ≤ 135) : ¬ lvS i r k := fun q => q.elim (goS_road h1 h2) (fun z => by rcases z.1 with y | y | y | y <;> omega)
theorem lv_st {i r k : Nat} (h1 : 256 ≤ r) (h2 : r ≤ 259) (h : k ≤ i) : ¬ lvS i r k := fun q => q.elim (goS_st h1 h2) (fun z => by omega)
theorem StA.lv {I I' : MI} {i k : Nat} {s : SA} (h : StA I k s) (hS : Same (lvS i) I I') (hk : k ≤ i) : StA I' k s := h.same hS (lv_st (by omega) (by omega) hk) (lv_st (by omega) (by omega) hk) (lv_st (by omega) (by omega) hk) (lv_st (by omega) (by omega) hk)
section RowsC
variable {d : Nat} {I : MI} {L : ML} {R : RD} {s : SA} {P : List SA}
theorem c_Br_stepOn {i : Nat} {out : Int32} {hb : Nat} {K : Int32 → MI → ML → Prop} (hd : 6 ≤ d) (hR : WF R) (hA : RoadA I 0 R) (hG : GoA I R) (hs : StA I (3 + i) s) (hi : i < 5) (hh : hb ≤ 1000) (hSR : SR R s hb) (h : ∀ I', StA I' (3 + i + 1) (trn R s out) → GoA I' R → Same (lvS (3 + i)) I I' → K (cbN (fun c => csO R s out c) (rC R)) I' L) : CI d m_Br_stepOn [vR 512 0, vI (nI i), vI out] I L K := by
  refine toCI (n := 5) hd (r_Br_stepOn_0 ?_)
  rw [nI_1, cl_n (by omega), cl_n (by omega)]
  refine ⟨fun q => absurd q (nlt0 (by omega)), fun _ => ⟨fun _ => ⟨vin (by omega) (by omega), vin (by omega) (by omega), ?_⟩, fun q => absurd (nI_lt (a := i) (b := 5) hi (by omega)) q⟩⟩
  refine c_St_copy (by omega) (by omega) hs (fun I1 hs1 hS1 => ⟨vin (by omega) (by omega), ?_⟩)
  have hS1' := st_tu hS1
  refine c_Go_turn (by omega) hR (hA.same hS1' (fun r h1 h2 => tuS_road h1 h2)) (GoA_st hG hS1) hs1 hh hSR (fun x I2 _ hs2 hG2 hcs hS2 => ?_)
  have hS : Same (tuS (3 + (i + 1))) I I2 := hS1'.tr hS2
  refine c_Go_causeBits (by omega) hR (hA.same hS (fun r h1 h2 => tuS_road h1 h2)) ⟨_, rfl, ?_⟩
  rw [cbN_eq (g := fun c => csO R s out c) _ hcs]
  exact h I2 hs2 hG2 (lv_tu (by omega) (by omega) hS)
theorem c_Br_rowsFrom {c : Nat} (hR : WF R) (hcl : c < rC R) : ∀ (l : Nat) {d i : Nat} {I : MI} {s : SA} {K : Int32 → MI → ML → Prop}, 8 + l ≤ d → RoadA I 0 R → GoA I R → StA I (3 + i) s → OkS R s → i + l ≤ 5 → (∀ I', GoA I' R → Same (lvS (3 + i)) I I' → K (rwsN R c l s) I' L) → CI d m_Br_rowsFrom [vR 512 0, vI (nI i), vI (nI l), vI (nI c)] I L K := by
  have hC := hR.1
  have hW := hR.2.1
  intro l
  induction l with
  | zero =>
    intro d i I s K hd hA hG hs hok hil h
    refine toCI (n := 7) (by omega) (r_Br_rowsFrom_0 ⟨fun _ => ⟨fun q => absurd q (nlt0 (by omega)), fun _ => ⟨fun q => absurd q (nI_nlt (a := 5) (b := i) (by omega) (by omega)), fun _ => ⟨vin (by omega) (by omega), ?_⟩⟩⟩, fun q => absurd (by decide) q⟩)
    rw [cl_n (by omega)]
    have fin := h I hG Same.rf
    simp only [rwsN] at fin
    refine c_St_lastOf (by omega) (by omega) ?_
    rw [hs.1 c (by omega)]
    refine ⟨fun q => ⟨_, rfl, ?_⟩, fun q => ⟨_, rfl, ?_⟩⟩
    · rw [if_neg q] at fin; exact fin
    · rw [if_pos (Classical.not_not.mp q)] at fin; exact fin
  | succ l ih =>
    intro d i I s K hd hA hG hs hok hil h
    rw [rws_alt hR] at h
    have el : nI (l + 1) - (1 : Int32) = nI l := nI_sub (a := l + 1) (b := 1) (by omega)
    refine toCI (n := 8 + l) (by omega) (r_Br_rowsFrom_0 ⟨fun q => absurd q (nI_ge (a := 0) (b := l + 1) (by omega) (by omega)), fun _ => ⟨fun q => absurd q (nlt0 (by omega)), fun _ => ⟨fun _ => ?_, fun q => absurd (nI_lt (a := i) (b := 5) (by omega) (by omega)) q⟩⟩⟩)
    refine c_Br_stepOn (by omega) hR hA hG hs (by omega) (show 9 ≤ 1000 by omega) hok.1 (fun I1 hs1 hG1 hS1 => ?_)
    have hA1 := hA.same hS1 (fun r h1 h2 => lv_road h1 h2)
    obtain ⟨kb, hkb, eb⟩ := cbN_lt hR (s := s) (out := -1) (rC R)
    refine c_bc (by omega) (fun y hy => ?_)
    have hy := hy kb hkb eb
    rw [cnt_cb hR hkb eb] at hy
    rw [hy, nI_1, el, hA1.2.1]
    refine ih (i := i + 1) (by omega) hA1 hG1 hs1 (trn_Ok hR hok) (by omega) (fun I2 hG2 hS2 => ?_)
    have key : ∀ (m w : Nat) (J : MI), w + m = rW R → GoA J R → Same (lvS (3 + i)) I J → XX (8 + l + 1) m_Br_rowsFrom (fun r I' L' => ∃ x, r = some (vI x) ∧ K x I' L') 85 [vR 512 0, vI (nI i), vI (nI (l + 1)), vI (nI c), vI (cbN (fun c => csO R s (-1) c) (rC R)), vD, vI ((((1 : Int32) + nI (rW R)) - sumN (ca1 R s) (rW R)) * rwsN R c l (trn R s (-1)) + sumN (fun w => if caN R s w = true then rwsN R c l (trn R s (nI w)) else 0) w), vI (nI w)] [] J L := by
      intro m
      induction m with
      | zero =>
        intro w J hw hGJ hSJ
        have hAJ := hA.same hSJ (fun r h1 h2 => lv_road h1 h2)
        refine r_Br_rowsFrom_85 ?_
        rw [hAJ.2.1]
        refine ⟨fun _ => ⟨_, rfl, ?_⟩, fun q => absurd (nI_le (show rW R ≤ w by omega) (by omega)) q⟩
        rw [show w = rW R by omega]
        exact h J hGJ hSJ
      | succ m ihm =>
        intro w J hw hGJ hSJ
        have hAJ := hA.same hSJ (fun r h1 h2 => lv_road h1 h2)
        refine r_Br_rowsFrom_85 ?_
        have eb1 := cb_bit hR (s := s) (w := w) (by omega) (rC R)
        rw [hAJ.2.1, eb1]
        refine ⟨fun q => absurd q (nI_ge (show w < rW R by omega) (by omega)), fun _ => ⟨fun q => ?_, fun q => ?_⟩⟩
        · have hno : ¬ caN R s w = true := fun z => by
            have z : ((List.range (rC R)).any fun c => decide (csO R s (-1) c = nI w)) = true := z
            rw [if_pos z] at q
            exact absurd q (by decide)
          have := ihm (w + 1) J (by omega) hGJ hSJ
          simp only [sumN] at this
          rw [if_neg hno, Int32.add_zero] at this
          rw [nI_1]
          exact this
        · have hyes : caN R s w = true := by
            cases z : caN R s w with
            | true => rfl
            | false =>
              have z : ((List.range (rC R)).any fun c => decide (csO R s (-1) c = nI w)) = false := z
              rw [z] at q
              exact absurd rfl q
          refine c_Br_stepOn (by omega) hR hAJ hGJ (hs.lv hSJ (Nat.le_refl _)) (by omega) (show 9 ≤ 1000 by omega) hok.1 (fun J1 hs1 hG1 hS1 => ?_)
          rw [nI_1, el, nI_1]
          refine ih (i := i + 1) (by omega) (hAJ.same hS1 (fun r h1 h2 => lv_road h1 h2)) hG1 hs1 (trn_Ok hR hok) (by omega) (fun J2 hG2 hS2 => ?_)
          have := ihm (w + 1) J2 (by omega) hG2 ((hSJ.tr hS1).tr (lv_lv (by omega) hS2))
          simp only [sumN] at this
          rw [if_pos hyes, ← Int32.add_assoc] at this
          exact this
    have := key (rW R) 0 I2 (by omega) hG2 (hS1.tr (lv_lv (by omega) hS2))
    simp only [sumN] at this
    rw [Int32.add_zero] at this
    exact this
end RowsC

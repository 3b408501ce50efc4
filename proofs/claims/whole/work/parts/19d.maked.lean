/-! THE MAKING: the reference's plain, bodies, contracts -/
section NPl
variable {p : Program} {l : Launch} {e : Env} {R : Room} {s : State} {m : MethodId} {args : Array Value} {below : List Frame} {meth : Method} {c : Code} {Qw : State → Prop}
variable {D : va_G} {cA : Nat → ClassId} {A : Nat → Prop} {cc : ByteArray} {nL own K N n0 : Nat} {g0 : Nat → Nat}
variable {pc : Nat} {q q' : NQ}
theorem pl_0 : decode prog_13_method_4_code 0 = .ok (.iconst 0, 1) := by decide +kernel
theorem pl_1 : decode prog_13_method_4_code 1 = .ok (.istore_n 1, 1) := by decide +kernel
theorem pl_2 : decode prog_13_method_4_code 2 = .ok (.iload_n 1, 1) := by decide +kernel
theorem pl_3 : decode prog_13_method_4_code 3 = .ok (.sipush 1184, 3) := by decide +kernel
theorem pl_6 : decode prog_13_method_4_code 6 = .ok (.if_icmp .ge 13, 3) := by decide +kernel
theorem pl_9 : decode prog_13_method_4_code 9 = .ok (.aload_n 0, 1) := by decide +kernel
theorem pl_10 : decode prog_13_method_4_code 10 = .ok (.iload_n 1, 1) := by decide +kernel
theorem pl_11 : decode prog_13_method_4_code 11 = .ok (.iconst 0, 1) := by decide +kernel
theorem pl_12 : decode prog_13_method_4_code 12 = .ok (.iastore, 1) := by decide +kernel
theorem pl_13 : decode prog_13_method_4_code 13 = .ok (.iinc 1 1, 3) := by decide +kernel
theorem pl_16 : decode prog_13_method_4_code 16 = .ok (.goto (-14), 3) := by decide +kernel
theorem pl_19 : decode prog_13_method_4_code 19 = .ok (.aload_n 0, 1) := by decide +kernel
theorem pl_20 : decode prog_13_method_4_code 20 = .ok (.iconst 1, 1) := by decide +kernel
theorem pl_21 : decode prog_13_method_4_code 21 = .ok (.iconst 1, 1) := by decide +kernel
theorem pl_22 : decode prog_13_method_4_code 22 = .ok (.iastore, 1) := by decide +kernel
theorem pl_23 : decode prog_13_method_4_code 23 = .ok (.return_, 1) := by decide +kernel
theorem lkp_0 (i : Nat) : lkp [(i, 0)] = lkp [] := by
  funext j
  simp [lkp]
theorem nIas_at {ls r : List MV} {w : List NC} {k n t mm : Nat} {u : List (Nat × Int32)} {x i : Int32} {y : Nat × Nat} (hw : w[y.2]? = some (Sum.inr (Sum.inl (t, mm, u)))) (ht : t = 0 ∧ ¬ i < 0 ∧ i.toNatClampNeg < mm) : nIas (ls, Sum.inl x :: Sum.inl i :: Sum.inr (Sum.inr (Sum.inl y)) :: r, w, k, n) = some (ls, r, w.set y.2 (Sum.inr (Sum.inl (t, mm, (i.toNatClampNeg, x) :: u))), k, n) := by
  simp only [nIas, hw, if_pos ht]
theorem pl_w {w : List NC} {o : Nat} (hw : w[o]? = some (Sum.inr (Sum.inl (0, 3552, [])))) (i : Nat) (g : Nat → Nat) : nrW cA g w = nrW cA g (w.set o (Sum.inr (Sum.inl (0, 3552, [(i, 0)])))) := by
  rw [← nrW_set]
  apply List.ext_getElem?
  intro j
  by_cases hj : o = j
  · subst hj
    have hl : o < (nrW cA g w).length := (List.getElem?_eq_some_iff.mp (nrW_get (cA := cA) (g := g) hw)).1
    rw [List.getElem?_set_self hl, nrW_get hw]
    show some (g o, Sum.inl (cA 0, 3552, Sum.inl (lkp []))) = some (g o, Sum.inl (cA 0, 3552, Sum.inl (lkp [(i, 0)])))
    rw [lkp_0]
  · rw [List.getElem?_set_ne hj]
theorem pl_loop (hC : Cn p R s m args meth c D cA A prog_13_method_4_code nL own K N) {w : List NC} {y : Nat × Nat} (hw : w[y.2]? = some (Sum.inr (Sum.inl (0, 3552, []))))
    (hk : Gn p l e R s m args below meth c Qw D cA A nL g0 n0 23 ([Sum.inr (Sum.inr (Sum.inl y)), vI (nI 1184)], [], w.set y.2 (Sum.inr (Sum.inl (0, 3552, [(1, 1)]))), 0, 0)) : ∀ (f i : Nat), i ≤ 1184 → 1184 - i ≤ f → Gn p l e R s m args below meth c Qw D cA A nL g0 n0 2 ([Sum.inr (Sum.inr (Sum.inl y)), vI (nI i)], [], w, 0, 0) := by
  intro f
  induction f with
  | zero =>
    intro i h1 h2
    have hi : i = 1184 := by omega
    subst hi
    refine n_iload hC pl_2 rfl ?_
    refine n_sipush hC pl_3 rfl ?_
    refine n_icmp (tgt := 19) (b := true) hC pl_6 rfl (by decide) (fun _ => ?_) (fun z => by cases z)
    refine n_aload hC pl_19 rfl ?_
    refine n_iconst hC pl_20 rfl ?_
    refine n_iconst hC pl_21 rfl ?_
    refine n_ias hC pl_22 (nIas_at hw (by decide)) ?_
    rw [show (Int32.ofInt 1).toNatClampNeg = 1 from by decide]
    exact hk
  | succ f ih =>
    intro i h1 h2
    by_cases hi : i = 1184
    · exact ih i h1 (by omega)
    · have hlt : i < 1184 := by omega
      refine n_iload hC pl_2 rfl ?_
      refine n_sipush hC pl_3 rfl ?_
      refine n_icmp (tgt := 19) (b := false) hC pl_6 rfl ?_ (fun z => by cases z) (fun _ => ?_)
      · have h5 : ¬ (nI 1184 ≤ nI i) := nle_c (m := 1184) hlt (by decide)
        have h6 : (Int16.ofInt 1184).toInt32 = nI 1184 := by decide
        show some (decide ((Int16.ofInt 1184).toInt32 ≤ nI i)) = some false
        rw [h6, decide_eq_false h5]
      · refine n_aload hC pl_9 rfl ?_
        refine n_iload hC pl_10 rfl ?_
        refine n_iconst hC pl_11 rfl ?_
        refine n_ias hC pl_12 (nIas_at hw ⟨rfl, ?_, ?_⟩) ?_
        · exact nI_pos (by omega)
        · rw [cl_n (by omega)]; omega
        · rw [cl_n (by omega)]
          refine Gn_w (w2 := w) (by rw [List.length_set]) (fun g => pl_w hw i g) (fun h => ?_) ?_
          · intro x hx
            have h6 := h
            have hlen : (w.set y.2 (Sum.inr (Sum.inl (0, 3552, [(i, Int32.ofInt 0)])))).length = w.length := List.length_set
            obtain ⟨j, hj⟩ := List.getElem?_of_mem hx
            by_cases hjo : y.2 = j
            · subst hjo
              rw [hw] at hj
              cases hj
              trivial
            · have h7 := h6 x (List.mem_of_getElem? (i := j) (by rw [List.getElem?_set_ne hjo]; exact hj))
              rw [hlen] at h7
              exact h7
          · refine n_iinc hC pl_13 rfl ?_
            refine n_goto (tgt := 2) hC pl_16 rfl ?_
            have h8 := ih (i + 1) (by omega) (by omega)
            rw [← nI_1 i] at h8
            exact h8
/-- the contract of plain -/
theorem n_plain {g : Nat → Nat} {w : List NC} {y : Nat × Nat} (hw : w[y.2]? = some (Sum.inr (Sum.inl (0, 3552, [])))) : Met l m_M_plain.2.2.2.2 (wsM m_M_plain) (rmN 1 0 0) (Pn D cA A g w [Sum.inr (Sum.inr (Sum.inl y))]) (Qn D cA A g w (w.set y.2 (Sum.inr (Sum.inl (0, 3552, [(1, 1)]))))) 0 0 A := by
  refine va_MetF (cc := prog_13_method_4_code) (maxL := 2) (ret := none) (by decide +kernel) rfl ?_
  intro p e s m args below meth c s₁ B hml hv
  obtain ⟨rfl, hP, hD, hK, hA, hok⟩ := hv
  have hts := atoms_spec (ws := wsM m_M_plain) B.pre
  have hown : s.vm.findClass (cn 11) = some m.cls := findClass_of_methodNamed B.named
  have hC : Cn p (headSpec (wsM m_M_plain) (rmN 1 0 0)).room s m ([Sum.inr (Sum.inr (Sum.inl y))].map (upv (adF g))).toArray meth c D cA A prog_13_method_4_code 2 11 0 0 :=
    ⟨B.exec, B.bytes, hml, hown, fun w hw => hts w (List.mem_cons_of_mem _ hw), hK, hA, by show 1 ≤ 1; omega, by show 200 ≤ 40 * 1 + 200; omega, Nat.zero_le _, Nat.zero_le _, fun _ h => absurd h (by decide)⟩
  have hr := B.returns
  have hlocks := B.notSynchronized
  rw [lg_entry_eq]
  have key : Gn p l e (headSpec (wsM m_M_plain) (rmN 1 0 0)).room s m ([Sum.inr (Sum.inr (Sum.inl y))].map (upv (adF g))).toArray below meth c (MQ below (Qn D cA A g w (w.set y.2 (Sum.inr (Sum.inl (0, 3552, [(1, 1)]))))) ([Sum.inr (Sum.inr (Sum.inl y))].map (upv (adF g))).toArray s 0 0 A) D cA A 2 g w.length 0 ([Sum.inr (Sum.inr (Sum.inl y)), vD], [], w, 0, 0) := by
    refine n_iconst hC pl_0 rfl ?_
    refine n_istore hC pl_1 rfl ?_
    refine pl_loop hC hw ?_ 1184 0 (by omega) (by omega)
    intro g' H locs la a1 a2 a3 a4 a5 a6 a7
    exact W.vret B.exec B.bytes hr (fun t ht hW => ⟨⟨g', a1, by rw [List.length_set]; exact Nat.le_refl _, rfl, a7, by rw [ht]; exact a3, a4⟩, a5.F ht⟩) a5.2.2 pl_23
  exact key g s.heap [] _ (fun _ _ => rfl) (Nat.le_refl _) hP hD va_S.rf (LR_ent (ad := adF g) (n := 2) (a := [Sum.inr (Sum.inr (Sum.inl y))]) (by show 1 ≤ 2; omega)) hok
theorem n_stat (hC : Cn p R s m args meth c D cA A cc nL 11 K N) (hR : 2 ≤ R.frames ∧ 261 ≤ R.locals) (hd : decode cc pc = .ok (.invokestatic 67, 3)) {ls r : List MV} {w : List NC} {k n : Nat} {y : Nat × Nat} (h1 : wsum r ≤ 8) (hw : w[y.2]? = some (Sum.inr (Sum.inl (0, 3552, [])))) (hk1 : k ≤ K) (hn1 : n ≤ N) (hl1 : ls.all (okN w.length) = true) (hl2 : r.all (okN w.length) = true)
    (hk : Gn p l e R s m args below meth c Qw D cA A nL g0 n0 (pc + 3) (ls, r, w.set y.2 (Sum.inr (Sum.inl (0, 3552, [(1, 1)]))), k, n)) : Gn p l e R s m args below meth c Qw D cA A nL g0 n0 pc (ls, Sum.inr (Sum.inr (Sum.inl y)) :: r, w, k, n) := by
  intro g H locs la a1 a2 a3 a4 a5 a6 a7
  have hpt := fun U hU hW => Pn_at (a := [Sum.inr (Sum.inr (Sum.inl y))]) hC a3 a4 a5 a7 U hU hW
  obtain ⟨d1, d2, d3, d4, d5, d6, d7, d8, d9, dK, dN, d10⟩ := hC
  obtain ⟨c1, c2, c3, c4, c5, c6, c7, c8, c9, c10⟩ := ct_M_67
  have c41 := c4.1 rfl
  have hyo : okY m_M_plain := ⟨c2, c5, c8, c10⟩
  have hcb := callB_of (R := R) (rm := rmN 1 0 0) (own := cn 11) (index := 67) 1 d5 (wsM_good m_M_plain hyo) rfl rfl rfl (d5 _ c3) (d5 _ c1) ⟨c6, c7, c9⟩ ⟨by show 1 + 1 ≤ R.frames; exact hR.1, by show 8 + (2 + 11) + (40 * 1 + 200) ≤ R.locals; exact hR.2⟩
  refine run_onN (la := la) (va_runS (As := [.ref (g y.2)]) (rest := r.map (upv (adF g))) (n := 1) (Ts := TW) (own := cn 11) (bytes := prog_13_method_4_code) (maxL := 2) (ret := none) (index := 67) ⟨d1, d2, d3, d4, d5⟩ (n_plain hw) ⟨hcb, d5 _ c41⟩
    ⟨Pn_blind, fun U hU hW => hpt U hU hW⟩ rfl rfl a6.1 rfl (lv_room (by rw [mcsum]; exact h1)) hd ⟨Nat.le_trans hk1 dK, Nat.le_trans hn1 dN⟩) a5 ?_
  intro g' H1 locs1 b1 b2 b3 b4 b5 b6
  have h3 := hk g' H1 locs1 la (fun i hi => (b1 i (Nat.lt_of_lt_of_le hi a2)).trans (a1 i hi)) (Nat.le_trans a2 b2) b4 b5 b6 (LR_x a6 hl1 b1) b3
  have h3 : W p l e R s m args below meth c H1 locs1 k n Qw (F0 m (pc + 3) la (r.map (upv (adF g')))) := h3
  rw [upl_x hl2 b1] at h3
  exact h3
def isPl (c : Option NC) : Bool := match c with
  | some (Sum.inr (Sum.inl (t, n, []))) => decide (t = 0 ∧ n = 3552)
  | _ => false
theorem isPl_ok {c : Option NC} (h : isPl c = true) : c = some (Sum.inr (Sum.inl (0, 3552, []))) := by
  unfold isPl at h
  split at h
  · have h := of_decide_eq_true h
    rw [h.1, h.2]
  · cases h
def nJ (call : Nat → List MV → List NC → Option (List NC)) (own K N pc : Nat) (i : Instr) (len : Nat) (q : NQ) : Option (Nat × NQ) := match i with
  | .goto off => if len = 3 ∧ 0 ≤ (pc : Int) + off then some (((pc : Int) + off).toNat, q) else none
  | .if_icmp kd off => (match q.2.1 with
    | Sum.inl y :: Sum.inl x :: r => if len = 3 ∧ 0 ≤ (pc : Int) + off then (match cyB kd x y with
        | some true => some (((pc : Int) + off).toNat, q.1, r, q.2.2)
        | some false => some (pc + 3, q.1, r, q.2.2)
        | none => none) else none
    | _ => none)
  | .invokespecial x => if len = 3 then (match nCl call own K N x q with
      | some q' => some (pc + 3, q')
      | none => none) else none
  | .invokestatic x => (match q.2.1 with
    | Sum.inr (Sum.inr (Sum.inl y)) :: r => if len = 3 ∧ own = 11 ∧ x = 67 ∧ wsum r ≤ 8 ∧ isPl q.2.2.1[y.2]? = true ∧ q.2.2.2.1 ≤ K ∧ q.2.2.2.2 ≤ N ∧ (q.1.all (okN q.2.2.1.length) && r.all (okN q.2.2.1.length)) = true then some (pc + 3, q.1, r, q.2.2.1.set y.2 (Sum.inr (Sum.inl (0, 3552, [(1, 1)]))), q.2.2.2) else none
    | _ => none)
  | i => if len = ilN i then (match nS own K N i q with
      | some q' => some (pc + len, q')
      | none => none) else none
theorem n_def (hC : Cn p R s m args meth c D cA A cc nL own K N) {i : Instr} {len pc' : Nat} (hd : decode cc pc = .ok (i, len)) (h2 : (if len = ilN i then (match nS own K N i q with
      | some q' => some (pc + len, q')
      | none => none) else none) = some (pc', q')) (hk : Gn p l e R s m args below meth c Qw D cA A nL g0 n0 pc' q') : Gn p l e R s m args below meth c Qw D cA A nL g0 n0 pc q := by
  split at h2
  · rename_i hlen
    split at h2
    · rename_i q1 hs
      cases h2
      exact n_all hC hd hlen hs hk
    · cases h2
  · cases h2
theorem n_step (hC : Cn p R s m args meth c D cA A cc nL own K N) {d : Nat} (hR : d + 1 ≤ R.frames ∧ 40 * (d + 1) + 200 ≤ R.locals) (hR2 : own = 11 → 2 ≤ R.frames ∧ 261 ≤ R.locals) {call : Nat → List MV → List NC → Option (List NC)} (hL : okL l d D cA A call) {i : Instr} {len pc' : Nat} (hd : decode cc pc = .ok (i, len)) (h2 : nJ call own K N pc i len q = some (pc', q')) (hk : Gn p l e R s m args below meth c Qw D cA A nL g0 n0 pc' q') : Gn p l e R s m args below meth c Qw D cA A nL g0 n0 pc q := by
  cases i with
  | goto off =>
    replace h2 : (if len = 3 ∧ 0 ≤ (pc : Int) + off then some (((pc : Int) + off).toNat, q) else none) = some (pc', q') := h2
    split at h2
    · rename_i hh
      obtain ⟨rfl, h0⟩ := hh
      cases h2
      exact n_goto hC hd (Int.toNat_of_nonneg h0).symm hk
    · cases h2
  | if_icmp kd off =>
    obtain ⟨ls, st, w, k, n⟩ := q
    rcases st with _ | ⟨u, _ | ⟨v, r⟩⟩
    · cases h2
    · rcases u with u | u <;> cases h2
    rcases u with y | u
    · rcases v with x | v
      · replace h2 : (if len = 3 ∧ 0 ≤ (pc : Int) + off then (match cyB kd x y with
          | some true => some (((pc : Int) + off).toNat, ls, r, w, k, n)
          | some false => some (pc + 3, ls, r, w, k, n)
          | none => none) else none) = some (pc', q') := h2
        split at h2
        · rename_i hh
          obtain ⟨rfl, h0⟩ := hh
          split at h2
          · rename_i hb
            cases h2
            exact n_icmp (b := true) hC hd (Int.toNat_of_nonneg h0).symm hb (fun _ => hk) (fun z => by cases z)
          · rename_i hb
            cases h2
            exact n_icmp (b := false) hC hd (Int.toNat_of_nonneg h0).symm hb (fun z => by cases z) (fun _ => hk)
          · cases h2
        · cases h2
      · cases h2
    · cases h2
  | invokespecial x =>
    replace h2 : (if len = 3 then (match nCl call own K N x q with
      | some q' => some (pc + 3, q')
      | none => none) else none) = some (pc', q') := h2
    split at h2
    · rename_i hlen
      subst hlen
      split at h2
      · rename_i q1 hs
        cases h2
        exact n_call hC hR hL hd hs hk
      · cases h2
    · cases h2
  | invokestatic x =>
    obtain ⟨ls, st, w, k, n⟩ := q
    rcases st with _ | ⟨v, r⟩
    · cases h2
    rcases v with v | v | y | v
    · cases h2
    · cases h2
    · replace h2 : (if len = 3 ∧ own = 11 ∧ x = 67 ∧ wsum r ≤ 8 ∧ isPl w[y.2]? = true ∧ k ≤ K ∧ n ≤ N ∧ (ls.all (okN w.length) && r.all (okN w.length)) = true then some (pc + 3, ls, r, w.set y.2 (Sum.inr (Sum.inl (0, 3552, [(1, 1)]))), k, n) else none) = some (pc', q') := h2
      split at h2
      · rename_i hh
        obtain ⟨rfl, rfl, rfl, e1, e2, e3, e4, e5⟩ := hh
        obtain ⟨hl1, hl2⟩ := (Bool.and_eq_true _ _).mp e5
        cases h2
        exact n_stat hC (hR2 rfl) hd e1 (isPl_ok e2) e3 e4 hl1 hl2 hk
      · cases h2
    · cases h2
  | _ => exact n_def hC hd h2 hk
def nB (call : Nat → List MV → List NC → Option (List NC)) (own stop K N : Nat) (cc : ByteArray) : Nat → Nat → NQ → Option NQ
  | 0, _, _ => none
  | f + 1, pc, q => if pc = stop then some q else match decode cc pc with
    | .ok (i, len) => (match nJ call own K N pc i len q with
      | some z => nB call own stop K N cc f z.1 z.2
      | none => none)
    | _ => none
theorem nB_ok (hC : Cn p R s m args meth c D cA A cc nL own K N) {d stop : Nat} (hR : d + 1 ≤ R.frames ∧ 40 * (d + 1) + 200 ≤ R.locals) (hR2 : own = 11 → 2 ≤ R.frames ∧ 261 ≤ R.locals) {call : Nat → List MV → List NC → Option (List NC)} (hL : okL l d D cA A call) : ∀ (f pc : Nat) (q q' : NQ), nB call own stop K N cc f pc q = some q' → Gn p l e R s m args below meth c Qw D cA A nL g0 n0 stop q' → Gn p l e R s m args below meth c Qw D cA A nL g0 n0 pc q := by
  intro f
  induction f with
  | zero => intro pc q q' h; cases h
  | succ f ih =>
    intro pc q q' h hk
    simp only [nB] at h
    split at h
    · rename_i hpc
      cases h
      rw [hpc]
      exact hk
    · split at h
      · rename_i i len hd
        split at h
        · rename_i z hz
          exact n_step hC hR hR2 hL hd (pc' := z.1) (q' := z.2) hz (ih z.1 z.2 q' h hk)
        · cases h
      · cases h
def nD : Nat → Nat → List MV → List NC → Option (List NC)
  | 0, _, _, _ => none
  | d + 1, o, a, w => match nB (nD d) o (stI o) (bg o).1 (bg o).2 (yI o).2.1 400 0 (ent (yI o).2.2.1 a, [], w, 0, 0) with
    | some (_, st, w', k, n) => if st.isEmpty = true ∧ k ≤ (bg o).1 ∧ n ≤ (bg o).2 ∧ w.length ≤ w'.length ∧ (o = 11 → 1 ≤ d) then some w' else none
    | none => none
theorem nMet : ∀ d : Nat, okL l d D cA A (nD d) := by
  intro d
  induction d with
  | zero => intro o a w w' h; cases h
  | succ d ih =>
    intro o a w w' h ho hlen g
    simp only [nD] at h
    split at h
    · rename_i ls' st' w1 k' n' hB
      split at h
      · rename_i hh
        obtain ⟨e1, e2, e3, e4, e5⟩ := hh
        cases h
        have e1 : st' = [] := List.isEmpty_iff.mp e1
        subst e1
        obtain ⟨i1, i2, i3, i4, i5⟩ := CI_ok ho
        refine va_MetF (cc := (yI o).2.1) (maxL := (yI o).2.2.1) (ret := none) i5.2.2.2.1 rfl ?_
        intro p e s m args below meth c s₁ B hml hv
        obtain ⟨rfl, hP, hD, hK, hA, hok⟩ := hv
        have hts := atoms_spec (ws := wsN o) B.pre
        have hown : s.vm.findClass (cn o) = some m.cls := by rw [← i5.2.2.1]; exact findClass_of_methodNamed B.named
        have hnm : meth.name = "<init>" := ((name_of_methodNamed B.named B.method).1).trans i5.2.2.2.2.1
        have hC : Cn p (headSpec (wsN o) (rmN (d + 1) (bg o).1 (bg o).2)).room s m (a.map (upv (adF g))).toArray meth c D cA A (yI o).2.1 (yI o).2.2.1 o (bg o).1 (bg o).2 :=
          ⟨B.exec, B.bytes, hml, hown, fun w hw => hts w (List.mem_cons_of_mem _ hw), hK, hA, by show 1 ≤ d + 1; omega, by show 200 ≤ 40 * (d + 1) + 200; omega, Nat.le_refl _, Nat.le_refl _, fun _ _ => hnm⟩
        have hr := B.returns
        have hlocks := B.notSynchronized
        rw [lg_entry_eq]
        refine nB_ok (d := d) (stop := stI o) (n0 := w.length) (g0 := g) (q' := (ls', [], w', k', n')) hC ⟨by show d + 1 ≤ d + 1; omega, by show 40 * (d + 1) + 200 ≤ 40 * (d + 1) + 200; omega⟩ (fun h => ⟨by show 2 ≤ d + 1; have := e5 h; omega, by show 261 ≤ 40 * (d + 1) + 200; have := e5 h; omega⟩) ih 400 0 (ent (yI o).2.2.1 a, [], w, 0, 0) hB ?_ g s.heap [] _ (fun _ _ => rfl) (Nat.le_refl _) hP hD va_S.rf (LR_ent hlen) hok
        intro g' H locs la a1 a2 a3 a4 a5 a6 a7
        refine W.widen (k := (bg o).1) (n := (bg o).2) e2 e3 ?_
        exact W.vret B.exec B.bytes hr (fun t ht hW => ⟨⟨g', a1, e4, rfl, a7, by rw [ht]; exact a3, a4⟩, a5.F ht⟩) a5.2.2 i5.2.2.2.2.2.2.2.2
      · cases h
    · cases h
end NPl

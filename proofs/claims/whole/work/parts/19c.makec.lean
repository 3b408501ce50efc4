/-! THE MAKING: calls, and a constructor's contract -/
def wsN (o : Nat) : List Cond := Cond.code (yI o).2.2.2.2 (yI o).2.1 (yI o).2.2.1 none :: TW
theorem wsN_good {o : Nat} (h : o < 12) : GoodIn TW (wsN o) := fun w hw => by
  have h1 := (CI_ok h).1
  rcases List.mem_cons.mp hw with rfl | hw
  · exact ⟨h1, TW_good h1⟩
  · exact ⟨hw, TW_good hw⟩
def rmN (d k n : Nat) : Room := { frames := d, cells := k, slots := n, locals := 40 * d + 200 }
def Pn (D : va_G) (cA : Nat → ClassId) (A : Nat → Prop) (g : Nat → Nat) (w : List NC) (a : List MV) : Array Value → State → Prop := fun v U => v = (a.map (upv (adF g))).toArray ∧ va_P D CL (nrW cA g w) U.heap ∧ va_D A (nrW cA g w) ∧ KN D cA U ∧ (∀ q : Nat, U.heap.size ≤ q → A q) ∧ okW w
def Qn (D : va_G) (cA : Nat → ClassId) (A : Nat → Prop) (g : Nat → Nat) (w w' : List NC) : Array Value → State → Outcome → State → Prop := fun _ st oc t => (∃ g' : Nat → Nat, (∀ i : Nat, i < w.length → g' i = g i) ∧ w.length ≤ w'.length ∧ oc = .returned none ∧ okW w' ∧ va_P D CL (nrW cA g' w') t.heap ∧ va_D A (nrW cA g' w')) ∧ va_F A st t
theorem Pn_blind {D : va_G} {cA : Nat → ClassId} {A : Nat → Prop} {g : Nat → Nat} {w : List NC} {a : List MV} : FrameBlind (Pn D cA A g w a) := fun v U fr mk q => ⟨q.1, q.2.1, q.2.2.1, KN_same (u := U) rfl q.2.2.2.1, q.2.2.2.2.1, q.2.2.2.2.2⟩
section NCl
variable {p : Program} {l : Launch} {e : Env} {R : Room} {s : State} {m : MethodId} {args : Array Value} {below : List Frame} {meth : Method} {c : Code} {Qw : State → Prop}
variable {D : va_G} {cA : Nat → ClassId} {A : Nat → Prop} {cc : ByteArray} {nL own K N n0 : Nat} {g0 : Nat → Nat}
variable {pc : Nat} {q q' : NQ}
theorem run_onN {H : Heap} {locs : List Loc} {la : Array Slot} {st0 rest : List Value} {a : Array Value} {g : Nat → Nat} {w w' : List NC} {k n mc ms : Nat} (hr : va_Run p l e R s m args below meth c H locs k n mc ms (F0 m pc la st0) rest (Qn D cA A g w w' a) A) (hS : va_S A s.heap H locs)
    (kk : ∀ (g' : Nat → Nat) (H1 : Heap) (locs1 : List Loc), (∀ i : Nat, i < w.length → g' i = g i) → w.length ≤ w'.length → okW w' → va_P D CL (nrW cA g' w') H1 → va_D A (nrW cA g' w') → va_S A s.heap H1 locs1 → W p l e R s m args below meth c H1 locs1 (k + mc) (n + ms) Qw (F0 m (pc + 3) la rest)) : W p l e R s m args below meth c H locs k n Qw (F0 m pc la st0) := by
  intro T hT X
  obtain ⟨v, st₀, t, T', L1, h0, X', hL, e1, e2, ⟨⟨g', g1, g2, hv, g3, g4, g5⟩, hz, hk⟩, stp⟩ := hr T hT X
  cases hv
  rw [h0] at hz hk
  obtain ⟨t2, a1, b1⟩ := kk g' T'.heap (locs ++ L1) g1 g2 g3 (by rw [e1]; exact g4) g5
    ⟨Nat.le_trans hS.1 (by rw [e1]; exact hz), fun q h1 h2 => by rw [e1, hk q (Nat.lt_of_lt_of_le h1 hS.1) h2]; exact hS.2.1 q h1 h2, fun q hq => by
      rcases List.mem_append.mp hq with h | h
      · exact hS.2.2 q h
      · exact hL q h⟩ T' rfl X'
  exact ⟨t2, stp t2 a1, b1⟩
theorem Pn_at {g : Nat → Nat} {w : List NC} {a : List MV} {H : Heap} {locs : List Loc} (hC : Cn p R s m args meth c D cA A cc nL own K N) (a3 : va_P D CL (nrW cA g w) H) (a4 : va_D A (nrW cA g w)) (a5 : va_S A s.heap H locs) (a7 : okW w) (U : State) (hU : U.heap = H) (hW : s.WarmedH U.vm) : Pn D cA A g w a (a.map (upv (adF g))).toArray U :=
  ⟨rfl, by rw [hU]; exact a3, a4, KN_warm hW hC.2.2.2.2.2.1, fun q hq => hC.2.2.2.2.2.2.1 q (Nat.le_trans a5.1 (by rw [hU] at hq; exact hq)), a7⟩
/-- a constructor is called -/
theorem n_callW (hC : Cn p R s m args meth c D cA A cc nL own K N) {d : Nat} (hR : d + 1 ≤ R.frames ∧ 40 * (d + 1) + 200 ≤ R.locals) {x o np ne : Nat} (hK : okK (own, x, o, np, ne)) (h9 : ¬ o = 99) (hd : decode cc pc = .ok (.invokespecial x, 3)) {g : Nat → Nat} {H : Heap} {locs : List Loc} {la : Array Slot} {w w' : List NC} {k n : Nat} {a : List MV} {y : Nat × Nat} {rest : List Value}
    (hn : a.length = np) (hw8 : (rest.map fun v => v.category).sum ≤ 8) (hk1 : k + (bg o).1 ≤ K) (hn1 : n + (bg o).2 ≤ N) (hla : la.size = nL)
    (hM : Met l (yI o).2.2.2.2 (wsN o) (rmN d (bg o).1 (bg o).2) (Pn D cA A g w (Sum.inr (Sum.inr (Sum.inl y)) :: a)) (Qn D cA A g w w') (bg o).1 (bg o).2 A)
    (a3 : va_P D CL (nrW cA g w) H) (a4 : va_D A (nrW cA g w)) (a5 : va_S A s.heap H locs) (a7 : okW w)
    (kk : ∀ (g' : Nat → Nat) (H1 : Heap) (locs1 : List Loc), (∀ i : Nat, i < w.length → g' i = g i) → w.length ≤ w'.length → okW w' → va_P D CL (nrW cA g' w') H1 → va_D A (nrW cA g' w') → va_S A s.heap H1 locs1 → W p l e R s m args below meth c H1 locs1 (k + (bg o).1) (n + (bg o).2) Qw (F0 m (pc + 3) la rest)) : W p l e R s m args below meth c H locs k n Qw (F0 m pc la ((a.map (upv (adF g))).reverse ++ .ref (g y.2) :: rest)) := by
  have hpt := fun U hU hW => Pn_at (a := Sum.inr (Sum.inr (Sum.inl y)) :: a) hC a3 a4 a5 a7 U hU hW
  obtain ⟨d1, d2, d3, d4, d5, d6, d7, d8, d9, dK, dN, d10⟩ := hC
  unfold okK at hK
  rw [if_neg h9] at hK
  obtain ⟨hl, hpar, ho⟩ := hK
  obtain ⟨i1, i2, i3, i4, i5⟩ := CI_ok ho
  have hb : (yI o).2.2.1 ≤ 20 := i5.2.2.2.2.2.2.2.1
  by_cases hne : ne = 1
  · rw [if_pos hne] at hl
    refine run_onN (la := la) (va_runIN (As := a.map (upv (adF g))) (rest := rest) (n := np) (Ts := TW) (own := cn own) (host := "CoachWaits") (b := g y.2) (bytes := (yI o).2.1) (maxL := (yI o).2.2.1) (index := x) ⟨d1, d2, d3, d4, d5⟩ hM
      ⟨va_cnB np d5 (wsN_good ho) rfl rfl rfl (d6.2.1 _ hl) (d5 _ i2) ⟨i5.2.2.2.2.2.1, i5.2.2.2.2.2.2.1, hpar⟩ ⟨by show d + 1 ≤ R.frames; exact hR.1, by show 8 + ((yI o).2.2.1 + 11) + (40 * d + 200) ≤ R.locals; omega⟩, i5.2.2.2.2.1, d5 _ i3⟩
      ⟨Pn_blind, fun U hU hW => hpt U hU hW⟩ rfl (by rw [List.length_map]; exact hn) hla rfl (lv_room hw8) hd ⟨Nat.le_trans hk1 dK, Nat.le_trans hn1 dN⟩) a5 kk
  · rw [if_neg hne] at hl
    refine run_onN (la := la) (va_runI (As := a.map (upv (adF g))) (rest := rest) (n := np) (Ts := TW) (own := cn own) (b := g y.2) (bytes := (yI o).2.1) (maxL := (yI o).2.2.1) (index := x) ⟨d1, d2, d3, d4, d5⟩ hM
      (cwI np d5 (wsN_good ho) rfl rfl rfl (d5 _ i2) (d5 _ hl) (d5 _ i3) i5.2.2.2.2.1 ⟨i5.2.2.2.2.2.1, i5.2.2.2.2.2.2.1, hpar⟩ ⟨by show d + 1 ≤ R.frames; exact hR.1, by show 8 + ((yI o).2.2.1 + 11) + (40 * d + 200) ≤ R.locals; omega⟩)
      ⟨Pn_blind, fun U hU hW => hpt U hU hW⟩ rfl (by rw [List.length_map]; exact hn) hla rfl (lv_room hw8) hd ⟨Nat.le_trans hk1 dK, Nat.le_trans hn1 dN⟩) a5 kk
def fnk (own x : Nat) : Option (Nat × Nat × Nat × Nat × Nat) := NKt.find? (fun e => e.1 == own && e.2.1 == x)
theorem fnk_in {x : Nat} {z : Nat × Nat × Nat × Nat × Nat} (h : fnk own x = some z) : (own, x, z.2.2.1, z.2.2.2.1, z.2.2.2.2) ∈ NKt := by
  have h1 := List.mem_of_find?_eq_some h
  have h2 := List.find?_some h
  simp only [Bool.and_eq_true, beq_iff_eq] at h2
  obtain ⟨a, b, d, f, i⟩ := z
  have e1 : a = own := h2.1
  have e2 : b = x := h2.2
  subst e1
  subst e2
  exact h1
def nCl (call : Nat → List MV → List NC → Option (List NC)) (own K N x : Nat) (q : NQ) : Option NQ := match fnk own x with
  | some (_, _, o, np, _) => if o = 99 then (match q.2.1 with
      | Sum.inr (Sum.inr (Sum.inl _)) :: r => if wsum r ≤ 8 then some (q.1, r, q.2.2) else none
      | _ => none)
    else match q.2.1.drop np with
      | Sum.inr (Sum.inr (Sum.inl y)) :: r => if (q.2.1.take np).length = np ∧ wsum r ≤ 8 ∧ (q.1.all (okN q.2.2.1.length) && r.all (okN q.2.2.1.length)) = true ∧ q.2.2.2.1 + (bg o).1 ≤ K ∧ q.2.2.2.2 + (bg o).2 ≤ N ∧ (enL (Sum.inr (Sum.inr (Sum.inl y)) :: (q.2.1.take np).reverse)).length ≤ (yI o).2.2.1 then (match call o (Sum.inr (Sum.inr (Sum.inl y)) :: (q.2.1.take np).reverse) q.2.2.1 with
          | some w' => some (q.1, r, w', q.2.2.2.1 + (bg o).1, q.2.2.2.2 + (bg o).2)
          | none => none)
        else none
      | _ => none
  | none => none
/-- what is known of the calls -/
def okL (l : Launch) (d : Nat) (D : va_G) (cA : Nat → ClassId) (A : Nat → Prop) (call : Nat → List MV → List NC → Option (List NC)) : Prop := ∀ (o : Nat) (a : List MV) (w w' : List NC), call o a w = some w' → o < 12 → (enL a).length ≤ (yI o).2.2.1 → ∀ g : Nat → Nat, Met l (yI o).2.2.2.2 (wsN o) (rmN d (bg o).1 (bg o).2) (Pn D cA A g w a) (Qn D cA A g w w') (bg o).1 (bg o).2 A
theorem mcsum (r : List MV) (g : Nat → Nat) : ((r.map (upv (adF g))).map fun v => v.category).sum = wsum r := map_cat r
theorem n_call (hC : Cn p R s m args meth c D cA A cc nL own K N) {d : Nat} (hR : d + 1 ≤ R.frames ∧ 40 * (d + 1) + 200 ≤ R.locals) {call : Nat → List MV → List NC → Option (List NC)} (hL : okL l d D cA A call) {x : Nat} (hd : decode cc pc = .ok (.invokespecial x, 3)) (h2 : nCl call own K N x q = some q') (hk : Gn p l e R s m args below meth c Qw D cA A nL g0 n0 (pc + 3) q') : Gn p l e R s m args below meth c Qw D cA A nL g0 n0 pc q := by
  obtain ⟨ls, st, w, k, n⟩ := q
  cases hf : fnk own x with
  | none => simp only [nCl, hf] at h2; cases h2
  | some z =>
    have hfl := NK_ok (fnk_in hf)
    obtain ⟨z1, z2, o, np, ne⟩ := z
    have hfl : okK (own, x, o, np, ne) := hfl
    simp only [nCl, hf] at h2
    by_cases h9 : o = 99
    · rw [if_pos h9] at h2
      split at h2
      · rename_i y r
        split at h2
        · rename_i hw8
          cases h2
          intro g H locs la a1 a2 a3 a4 a5 a6 a7
          obtain ⟨d1, d2, d3, d4, d5, d6, d7, d8, d9, dK, dN, d10⟩ := hC
          have hlk : Cond.methodLink (cn own) x Lib.objectInit ∈ TW := by
            unfold okK at hfl
            rw [if_pos h9] at hfl
            exact hfl
          exact W.objInit d1 d2 d4 (d5 _ hlk) (d5 _ oI_in) (d5 _ oI_cd) (g := F0 m pc la ((Sum.inr (Sum.inr (Sum.inl y)) :: r).map (upv (adF g)))) (a := g y.2) (rest := r.map (upv (adF g))) rfl (by rw [d3]; exact a6.1) rfl hd d8 (by rw [mcsum]; show 2 * 0 + wsum r + 12 ≤ R.locals; omega) (hk g H locs la a1 a2 a3 a4 a5 a6 a7)
        · cases h2
      · cases h2
    · rw [if_neg h9] at h2
      split at h2
      · rename_i y r hst
        have hst : st.drop np = Sum.inr (Sum.inr (Sum.inl y)) :: r := hst
        split at h2
        · rename_i hh
          obtain ⟨e1, e2, e3, e4, e5, e6⟩ := hh
          obtain ⟨hl1, hl2⟩ := (Bool.and_eq_true _ _).mp e3
          split at h2
          · rename_i w' hcall
            cases h2
            intro g H locs la a1 a2 a3 a4 a5 a6 a7
            have ho : o < 12 := by
              unfold okK at hfl
              rw [if_neg h9] at hfl
              exact hfl.2.2
            have hM := hL o _ w w' hcall ho e6 g
            have hst2 : st.map (upv (adF g)) = ((st.take np).reverse.map (upv (adF g))).reverse ++ .ref (g y.2) :: r.map (upv (adF g)) := by
              have h4 : st = st.take np ++ (Sum.inr (Sum.inr (Sum.inl y)) :: r) := by rw [← hst, List.take_append_drop]
              have h5 : st.map (upv (adF g)) = (st.take np ++ (Sum.inr (Sum.inr (Sum.inl y)) :: r)).map (upv (adF g)) := by rw [← h4]
              rw [h5, List.map_append, List.map_reverse, List.reverse_reverse]
              rfl
            show W p l e R s m args below meth c H locs k n Qw (F0 m pc la (st.map (upv (adF g))))
            rw [hst2]
            refine n_callW hC hR hfl h9 hd (by rw [List.length_reverse]; exact e1) (by rw [mcsum]; exact e2) e4 e5 a6.1 hM a3 a4 a5 a7 ?_
            intro g' H1 locs1 b1 b2 b3 b4 b5 b6
            have h3 := hk g' H1 locs1 la (fun i hi => (b1 i (Nat.lt_of_lt_of_le hi a2)).trans (a1 i hi)) (Nat.le_trans a2 b2) b4 b5 b6 (LR_x a6 hl1 b1) b3
            have h3 : W p l e R s m args below meth c H1 locs1 (k + (bg o).1) (n + (bg o).2) Qw (F0 m (pc + 3) la (r.map (upv (adF g')))) := h3
            rw [upl_x hl2 b1] at h3
            exact h3
          · cases h2
        · cases h2
      · cases h2
theorem n_goto (hC : Cn p R s m args meth c D cA A cc nL own K N) {off : Int} {tgt : Nat} (hd : decode cc pc = .ok (.goto off, 3)) (ht : (pc : Int) + off = (tgt : Int)) (hk : Gn p l e R s m args below meth c Qw D cA A nL g0 n0 tgt q) : Gn p l e R s m args below meth c Qw D cA A nL g0 n0 pc q :=
  fun g H locs la a1 a2 a3 a4 a5 a6 a7 => lv_goto hC.1 hC.2.1 hd ht (hk g H locs la a1 a2 a3 a4 a5 a6 a7)
def cyB (k : Jvm.ClassFile.Cond) (x y : Int32) : Option Bool := match k with
  | .ge => some (decide (y ≤ x))
  | .gt => some (decide (y < x))
  | _ => none
theorem n_icmp (hC : Cn p R s m args meth c D cA A cc nL own K N) {off : Int} {tgt : Nat} {kd : Jvm.ClassFile.Cond} {x y : Int32} {ls r : List MV} {w : List NC} {k n : Nat} {b : Bool} (hd : decode cc pc = .ok (.if_icmp kd off, 3)) (ht : (pc : Int) + off = (tgt : Int)) (hb : cyB kd x y = some b) (h1 : b = true → Gn p l e R s m args below meth c Qw D cA A nL g0 n0 tgt (ls, r, w, k, n)) (h0 : b = false → Gn p l e R s m args below meth c Qw D cA A nL g0 n0 (pc + 3) (ls, r, w, k, n)) : Gn p l e R s m args below meth c Qw D cA A nL g0 n0 pc (ls, vI y :: vI x :: r, w, k, n) := by
  intro g H locs la a1 a2 a3 a4 a5 a6 a7
  have ka := fun z => h1 z g H locs la a1 a2 a3 a4 a5 a6 a7
  have kb := fun z => h0 z g H locs la a1 a2 a3 a4 a5 a6 a7
  cases kd with
  | ge =>
    have hb : some (decide (y ≤ x)) = some b := hb
    cases hb
    exact lv_icmp_ge hC.1 hC.2.1 hd ht (fun z => ka (decide_eq_true z)) (fun z => kb (decide_eq_false z))
  | gt =>
    have hb : some (decide (y < x)) = some b := hb
    cases hb
    exact lv_icmp_gt hC.1 hC.2.1 hd ht (fun z => ka (decide_eq_true z)) (fun z => kb (decide_eq_false z))
  | _ => cases hb
theorem Gn_w {ls st : List MV} {w1 w2 : List NC} {k n : Nat} (hlen : w2.length = w1.length) (hw : ∀ g : Nat → Nat, nrW cA g w2 = nrW cA g w1) (hok : okW w1 → okW w2) (h : Gn p l e R s m args below meth c Qw D cA A nL g0 n0 pc (ls, st, w2, k, n)) : Gn p l e R s m args below meth c Qw D cA A nL g0 n0 pc (ls, st, w1, k, n) := by
  intro g H locs la a1 a2 a3 a4 a5 a6 a7
  exact h g H locs la a1 (by show n0 ≤ w2.length; rw [hlen]; exact a2) (by show va_P D CL (nrW cA g w2) H; rw [hw]; exact a3) (by show va_D A (nrW cA g w2); rw [hw]; exact a4) a5 a6 (hok a7)
end NCl

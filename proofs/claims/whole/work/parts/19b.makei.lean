/-! THE MAKING, instruction by instruction -/
def qT (c : Nat) : Option Nat := if c = 4 then some 4 else if c = 10 then some 5 else if c = 2 then some 6 else none
def atK (t : ArrayType) : Option Nat := match t with
  | .int => some 0
  | .byte => some 1
  | .boolean => some 2
  | .long => some 3
  | _ => none
section NOps
def nP (v : MV) (q : NQ) : Option NQ := some (q.1, v :: q.2.1, q.2.2)
def nAld (a : Nat) (q : NQ) : Option NQ := match q.1[a]? with
  | some (Sum.inr (Sum.inr (Sum.inl x))) => some (q.1, Sum.inr (Sum.inr (Sum.inl x)) :: q.2.1, q.2.2)
  | _ => none
def nIld (a : Nat) (q : NQ) : Option NQ := match q.1[a]? with
  | some (Sum.inl x) => some (q.1, Sum.inl x :: q.2.1, q.2.2)
  | _ => none
def nIst (a : Nat) (q : NQ) : Option NQ := match q.2.1 with
  | Sum.inl x :: r => if a < q.1.length then some (s1L q.1 a (vI x), r, q.2.2) else none
  | _ => none
def nAst (a : Nat) (q : NQ) : Option NQ := match q.2.1 with
  | Sum.inr (Sum.inr (Sum.inl x)) :: r => if a < q.1.length then some (s1L q.1 a (Sum.inr (Sum.inr (Sum.inl x))), r, q.2.2) else none
  | _ => none
def nInc (a : Nat) (z : Int32) (q : NQ) : Option NQ := match q.1[a]? with
  | some (Sum.inl x) => some (s1L q.1 a (vI (x + z)), q.2.1, q.2.2)
  | _ => none
def nDup (q : NQ) : Option NQ := match q.2.1 with
  | Sum.inr (Sum.inr (Sum.inl x)) :: r => some (q.1, Sum.inr (Sum.inr (Sum.inl x)) :: Sum.inr (Sum.inr (Sum.inl x)) :: r, q.2.2)
  | _ => none
def fitB (a b : Nat) (v : MV) : Bool := match v with
  | Sum.inl _ => fK a b = 0
  | Sum.inr (Sum.inr (Sum.inl _)) => 3 ≤ fK a b
  | _ => false
def fnd (own x : Nat) : Option (Nat × Nat × Nat × Nat) := FLl.find? (fun e => e.1 == own && e.2.1 == x)
def nGet (own x : Nat) (q : NQ) : Option NQ := match q.2.1, fnd own x with
  | Sum.inr (Sum.inr (Sum.inl o)) :: r, some (_, _, a, b) => match q.2.2.1[o.2]? with
    | some (Sum.inl (t, fs)) => match fs[b]? with
      | some v => if a = 64 * own ∧ t = own ∧ own < 12 ∧ b < nF (64 * own) then some (q.1, v :: r, q.2.2) else none
      | none => none
    | _ => none
  | _, _ => none
def nPut (own N x : Nat) (q : NQ) : Option NQ := match q.2.1, fnd own x with
  | v :: Sum.inr (Sum.inr (Sum.inl o)) :: r, some (_, _, a, b) => match q.2.2.1[o.2]? with
    | some (Sum.inl (t, fs)) => if a = 64 * own ∧ t = own ∧ own < 12 ∧ b < nF (64 * own) ∧ 0 < N ∧ fs.length = nF (64 * own) ∧ fitB (64 * own) b v = true ∧ okN q.2.2.1.length v = true then some (q.1, r, q.2.2.1.set o.2 (Sum.inl (t, fs.set b v)), q.2.2.2) else none
    | _ => none
  | _, _ => none
def fnw (own x : Nat) : Option (Nat × Nat × Nat) := NWt.find? (fun e => e.1 == own && e.2.1 == x)
def nNew (own K N x : Nat) (q : NQ) : Option NQ := match fnw own x with
  | some (_, _, c) => if c < 12 ∧ q.2.2.2.1 + 1 ≤ K ∧ q.2.2.2.2 + nF (64 * c) ≤ N ∧ (q.1.all (okN q.2.2.1.length) && q.2.1.all (okN q.2.2.1.length)) = true then some (q.1, vR 0 q.2.2.1.length :: q.2.1, q.2.2.1 ++ [Sum.inl (c, dF c)], q.2.2.2.1 + 1, q.2.2.2.2 + nF (64 * c)) else none
  | none => none
def nNwa (K N : Nat) (t : ArrayType) (q : NQ) : Option NQ := match atK t, q.2.1 with
  | some a, Sum.inl z :: r => if ¬ z < 0 ∧ z.toNatClampNeg ≤ 10000 ∧ q.2.2.2.1 + 1 ≤ K ∧ q.2.2.2.2 + z.toNatClampNeg ≤ N ∧ (q.1.all (okN q.2.2.1.length) && r.all (okN q.2.2.1.length)) = true then some (q.1, vR 0 q.2.2.1.length :: r, q.2.2.1 ++ [Sum.inr (Sum.inl (a, z.toNatClampNeg, []))], q.2.2.2.1 + 1, q.2.2.2.2 + z.toNatClampNeg) else none
  | _, _ => none
def nNwq (own K N x : Nat) (q : NQ) : Option NQ := match fnw own x, q.2.1 with
  | some (_, _, c), Sum.inl z :: r => match qT c with
    | some a => if ¬ z < 0 ∧ z.toNatClampNeg ≤ 10000 ∧ q.2.2.2.1 + 1 ≤ K ∧ q.2.2.2.2 + z.toNatClampNeg ≤ N ∧ (q.1.all (okN q.2.2.1.length) && r.all (okN q.2.2.1.length)) = true then some (q.1, vR 0 q.2.2.1.length :: r, q.2.2.1 ++ [Sum.inr (Sum.inr (a, z.toNatClampNeg, List.replicate z.toNatClampNeg none))], q.2.2.2.1 + 1, q.2.2.2.2 + z.toNatClampNeg) else none
    | none => none
  | _, _ => none
def nAas (q : NQ) : Option NQ := match q.2.1 with
  | Sum.inr (Sum.inr (Sum.inl v)) :: Sum.inl i :: Sum.inr (Sum.inr (Sum.inl o)) :: r => match q.2.2.1[o.2]?, q.2.2.1[v.2]? with
    | some (Sum.inr (Sum.inr (t, m, es))), some (Sum.inl (c, _)) => if qT c = some t ∧ ¬ i < 0 ∧ i.toNatClampNeg < m ∧ es.length = m then some (q.1, r, q.2.2.1.set o.2 (Sum.inr (Sum.inr (t, m, es.set i.toNatClampNeg (some v.2)))), q.2.2.2) else none
    | _, _ => none
  | _ => none
def nIas (q : NQ) : Option NQ := match q.2.1 with
  | Sum.inl x :: Sum.inl i :: Sum.inr (Sum.inr (Sum.inl o)) :: r => match q.2.2.1[o.2]? with
    | some (Sum.inr (Sum.inl (t, m, u))) => if t = 0 ∧ ¬ i < 0 ∧ i.toNatClampNeg < m then some (q.1, r, q.2.2.1.set o.2 (Sum.inr (Sum.inl (t, m, (i.toNatClampNeg, x) :: u))), q.2.2.2) else none
    | _ => none
  | _ => none
end NOps
def nS (own K N : Nat) (i : Instr) (q : NQ) : Option NQ := match i with
  | .aload_n a => nAld a.val q
  | .iload_n a => nIld a.val q
  | .istore_n a => nIst a.val q
  | .astore_n a => nAst a.val q
  | .iconst z => nP (vI (Int32.ofInt z)) q
  | .bipush z => nP (vI (Int8.ofInt z).toInt32) q
  | .sipush z => nP (vI (Int16.ofInt z).toInt32) q
  | .iinc a z => nInc a (Int32.ofInt z) q
  | .dup => nDup q
  | .getfield x => nGet own x q
  | .putfield x => nPut own N x q
  | .new x => nNew own K N x q
  | .newarray t => nNwa K N t q
  | .anewarray x => nNwq own K N x q
  | .aastore => nAas q
  | .iastore => nIas q
  | _ => none
def ilN (i : Instr) : Nat := match i with
  | .bipush _ | .newarray _ => 2
  | .sipush _ | .iinc _ _ | .getfield _ | .putfield _ | .new _ | .anewarray _ => 3
  | _ => 1
def Cn (p : Program) (R : Room) (s : State) (m : MethodId) (args : Array Value) (meth : Method) (c : Code) (D : va_G) (cA : Nat → ClassId) (A : Nat → Prop) (cc : ByteArray) (nL own K N : Nat) : Prop :=
  p.tables.exec = Jvm.exec ∧ c.code = cc ∧ c.maxLocals = nL ∧ s.vm.findClass (cn own) = some m.cls ∧ (∀ w ∈ TW, w.before args s = true) ∧ KN D cA s ∧ (∀ q : Nat, s.heap.size ≤ q → A q) ∧ 1 ≤ R.frames ∧ 200 ≤ R.locals ∧ K ≤ R.cells ∧ N ≤ R.slots ∧ (own < 12 → 0 < N → meth.name = "<init>")
def Gn (p : Program) (l : Launch) (e : Env) (R : Room) (s : State) (m : MethodId) (args : Array Value) (below : List Frame) (meth : Method) (c : Code) (Qw : State → Prop) (D : va_G) (cA : Nat → ClassId) (A : Nat → Prop) (nL : Nat) (g0 : Nat → Nat) (n0 : Nat) (pc : Nat) (q : NQ) : Prop :=
  ∀ (g : Nat → Nat) (H : Heap) (locs : List Loc) (la : Array Slot), (∀ i : Nat, i < n0 → g i = g0 i) → n0 ≤ q.2.2.1.length → va_P D CL (nrW cA g q.2.2.1) H → va_D A (nrW cA g q.2.2.1) → va_S A s.heap H locs → LR (adF g) nL la q.1 → okW q.2.2.1 → W p l e R s m args below meth c H locs q.2.2.2.1 q.2.2.2.2 Qw (F0 m pc la (q.2.1.map (upv (adF g))))
section NI
variable {p : Program} {l : Launch} {e : Env} {R : Room} {s : State} {m : MethodId} {args : Array Value} {below : List Frame} {meth : Method} {c : Code} {Qw : State → Prop}
variable {D : va_G} {cA : Nat → ClassId} {A : Nat → Prop} {cc : ByteArray} {nL own K N n0 : Nat} {g0 : Nat → Nat}
variable {pc : Nat} {q q' : NQ}
theorem n_iconst (hC : Cn p R s m args meth c D cA A cc nL own K N) {z : Int} (hd : decode cc pc = .ok (.iconst z, 1)) (h2 : nP (vI (Int32.ofInt z)) q = some q') (hk : Gn p l e R s m args below meth c Qw D cA A nL g0 n0 (pc + 1) q') : Gn p l e R s m args below meth c Qw D cA A nL g0 n0 pc q := by
  cases h2
  intro g H locs la a1 a2 a3 a4 a5 a6 a7
  exact lv_iconst hC.1 hC.2.1 hd rfl (hk g H locs la a1 a2 a3 a4 a5 a6 a7)
theorem n_bipush (hC : Cn p R s m args meth c D cA A cc nL own K N) {z : Int} (hd : decode cc pc = .ok (.bipush z, 2)) (h2 : nP (vI (Int8.ofInt z).toInt32) q = some q') (hk : Gn p l e R s m args below meth c Qw D cA A nL g0 n0 (pc + 2) q') : Gn p l e R s m args below meth c Qw D cA A nL g0 n0 pc q := by
  cases h2
  intro g H locs la a1 a2 a3 a4 a5 a6 a7
  exact lv_bipush hC.1 hC.2.1 hd rfl (hk g H locs la a1 a2 a3 a4 a5 a6 a7)
theorem n_sipush (hC : Cn p R s m args meth c D cA A cc nL own K N) {z : Int} (hd : decode cc pc = .ok (.sipush z, 3)) (h2 : nP (vI (Int16.ofInt z).toInt32) q = some q') (hk : Gn p l e R s m args below meth c Qw D cA A nL g0 n0 (pc + 3) q') : Gn p l e R s m args below meth c Qw D cA A nL g0 n0 pc q := by
  cases h2
  intro g H locs la a1 a2 a3 a4 a5 a6 a7
  exact lv_sipush hC.1 hC.2.1 hd rfl (hk g H locs la a1 a2 a3 a4 a5 a6 a7)
theorem n_aload (hC : Cn p R s m args meth c D cA A cc nL own K N) {a : Fin 4} (hd : decode cc pc = .ok (.aload_n a, 1)) (h2 : nAld a.val q = some q') (hk : Gn p l e R s m args below meth c Qw D cA A nL g0 n0 (pc + 1) q') : Gn p l e R s m args below meth c Qw D cA A nL g0 n0 pc q := by
  unfold nAld at h2
  split at h2
  · rename_i x hl
    cases h2
    intro g H locs la a1 a2 a3 a4 a5 a6 a7
    exact lv_aload_n hC.1 hC.2.1 hd rfl (a6.2.2.2 _ _ hl (by simp)) (hk g H locs la a1 a2 a3 a4 a5 a6 a7)
  · cases h2
theorem n_iload (hC : Cn p R s m args meth c D cA A cc nL own K N) {a : Fin 4} (hd : decode cc pc = .ok (.iload_n a, 1)) (h2 : nIld a.val q = some q') (hk : Gn p l e R s m args below meth c Qw D cA A nL g0 n0 (pc + 1) q') : Gn p l e R s m args below meth c Qw D cA A nL g0 n0 pc q := by
  unfold nIld at h2
  split at h2
  · rename_i x hl
    cases h2
    intro g H locs la a1 a2 a3 a4 a5 a6 a7
    exact lv_iload_n hC.1 hC.2.1 hd rfl (a6.2.2.2 _ _ hl (by simp)) (hk g H locs la a1 a2 a3 a4 a5 a6 a7)
  · cases h2
theorem n_istore (hC : Cn p R s m args meth c D cA A cc nL own K N) {a : Fin 4} (hd : decode cc pc = .ok (.istore_n a, 1)) (h2 : nIst a.val q = some q') (hk : Gn p l e R s m args below meth c Qw D cA A nL g0 n0 (pc + 1) q') : Gn p l e R s m args below meth c Qw D cA A nL g0 n0 pc q := by
  obtain ⟨ls, st, w, k, n⟩ := q
  rcases st with _ | ⟨v, r⟩
  · cases h2
  rcases v with x | v
  · have h2 : (if a.val < ls.length then some (s1L ls a.val (vI x), r, w, k, n) else none) = some q' := h2
    by_cases hlt : a.val < ls.length
    · rw [if_pos hlt] at h2
      cases h2
      intro g H locs la a1 a2 a3 a4 a5 a6 a7
      exact lv_istore_n hC.1 hC.2.1 hd rfl (LR_has a6) (by rw [← a6.2.1]; exact hlt) rfl (fun la' h' => hk g H locs la' a1 a2 a3 a4 a5 (LR_st1 (v := vI x) a6.2.1 h') a7)
    · rw [if_neg hlt] at h2
      cases h2
  · cases h2
theorem n_astore (hC : Cn p R s m args meth c D cA A cc nL own K N) {a : Fin 4} (hd : decode cc pc = .ok (.astore_n a, 1)) (h2 : nAst a.val q = some q') (hk : Gn p l e R s m args below meth c Qw D cA A nL g0 n0 (pc + 1) q') : Gn p l e R s m args below meth c Qw D cA A nL g0 n0 pc q := by
  obtain ⟨ls, st, w, k, n⟩ := q
  rcases st with _ | ⟨v, r⟩
  · cases h2
  rcases v with v | v | x | v
  · cases h2
  · cases h2
  · have h2 : (if a.val < ls.length then some (s1L ls a.val (Sum.inr (Sum.inr (Sum.inl x))), r, w, k, n) else none) = some q' := h2
    by_cases hlt : a.val < ls.length
    · rw [if_pos hlt] at h2
      cases h2
      intro g H locs la a1 a2 a3 a4 a5 a6 a7
      exact lv_astore_n hC.1 hC.2.1 hd rfl (LR_has a6) (by rw [← a6.2.1]; exact hlt) rfl (fun la' h' => hk g H locs la' a1 a2 a3 a4 a5 (LR_st1 (v := Sum.inr (Sum.inr (Sum.inl x))) a6.2.1 h') a7)
    · rw [if_neg hlt] at h2
      cases h2
  · cases h2
theorem n_iinc (hC : Cn p R s m args meth c D cA A cc nL own K N) {a : Nat} {z : Int} (hd : decode cc pc = .ok (.iinc a z, 3)) (h2 : nInc a (Int32.ofInt z) q = some q') (hk : Gn p l e R s m args below meth c Qw D cA A nL g0 n0 (pc + 3) q') : Gn p l e R s m args below meth c Qw D cA A nL g0 n0 pc q := by
  unfold nInc at h2
  split at h2
  · rename_i x hl
    cases h2
    intro g H locs la a1 a2 a3 a4 a5 a6 a7
    obtain ⟨j, hj⟩ := List.getElem?_of_mem (al_mem (ad := adF g) (ls := q.1) (q := (a, .int x)) |>.mpr ⟨vI x, hl, by simp, rfl⟩)
    exact lv_iinc hC.1 hC.2.1 hd (LR_has a6) hj rfl (by rw [← a6.2.1]; exact (List.getElem?_eq_some_iff.mp hl).1) rfl (fun la' h' => hk g H locs la' a1 a2 a3 a4 a5 (LR_st1 (v := vI (x + Int32.ofInt z)) a6.2.1 h') a7)
  · cases h2
theorem n_dup (hC : Cn p R s m args meth c D cA A cc nL own K N) (hd : decode cc pc = .ok (.dup, 1)) (h2 : nDup q = some q') (hk : Gn p l e R s m args below meth c Qw D cA A nL g0 n0 (pc + 1) q') : Gn p l e R s m args below meth c Qw D cA A nL g0 n0 pc q := by
  obtain ⟨ls, st, w, k, n⟩ := q
  rcases st with _ | ⟨v, r⟩
  · cases h2
  rcases v with v | v | x | v
  · cases h2
  · cases h2
  · cases h2
    intro g H locs la a1 a2 a3 a4 a5 a6 a7
    exact lv_dup (va := upv (adF g) (Sum.inr (Sum.inr (Sum.inl x)))) hC.1 hC.2.1 hd rfl (hk g H locs la a1 a2 a3 a4 a5 a6 a7)
  · cases h2
theorem fnd_in {x : Nat} {z : Nat × Nat × Nat × Nat} (h : fnd own x = some z) : (own, x, z.2.2.1, z.2.2.2) ∈ FLl := by
  have h1 := List.mem_of_find?_eq_some h
  have h2 := List.find?_some h
  simp only [Bool.and_eq_true, beq_iff_eq] at h2
  obtain ⟨a, b, d, f⟩ := z
  have e1 : a = own := h2.1
  have e2 : b = x := h2.2
  subst e1
  subst e2
  exact h1
theorem fnw_in {x : Nat} {z : Nat × Nat × Nat} (h : fnw own x = some z) : (own, x, z.2.2) ∈ NWt := by
  have h1 := List.mem_of_find?_eq_some h
  have h2 := List.find?_some h
  simp only [Bool.and_eq_true, beq_iff_eq] at h2
  obtain ⟨a, b, d⟩ := z
  have e1 : a = own := h2.1
  have e2 : b = x := h2.2
  subst e1
  subst e2
  exact h1
/-- what the tables have of a kind -/
theorem rows_of {o : Nat} (h : o < 12) : CL[o]? = some (cn o, Tf o, nF (64 * o)) ∧ (∀ w ∈ u_ws (cn o) (Tf o) (nF (64 * o)), w ∈ TW) ∧ (∀ j, j < nF (64 * o) → parseFieldDescriptor (Tf o j).2.2.1 = some (tyF o j)) ∧ (∀ x, x < nF (64 * o) → ∀ y, y < nF (64 * o) → x ≠ y → (Tf o x).2.1 ≠ (Tf o y).2.1) ∧ (∀ j, j < nF (64 * o) → (Tf o j).1 = cn o) ∧ (∀ j, j < nF (64 * o) → defaultValue (tyF o j) = vp_V ((dF o).map (upv (fun _ _ => 0))) j) := by
  refine ⟨CL_at h, CL_in h, fun j hj => ?_, fun x hx y hy hne => ?_, fun j hj => ?_, fun j hj => ?_⟩
  · have h := List.all_eq_true.mp (List.all_eq_true.mp ty_ck o (List.mem_range.mpr h)) j (List.mem_range.mpr hj)
    simp only [Bool.and_eq_true] at h
    exact of_decide_eq_true h.1
  · have h := List.all_eq_true.mp (List.all_eq_true.mp (List.all_eq_true.mp nm_ck o (List.mem_range.mpr h)) x (List.mem_range.mpr hx)) y (List.mem_range.mpr hy)
    simp only [Bool.or_eq_true, decide_eq_true_eq] at h
    rcases h with q | q
    · exact absurd q hne
    · exact q
  · exact of_decide_eq_true (List.all_eq_true.mp (List.all_eq_true.mp dc_ck o (List.mem_range.mpr h)) j (List.mem_range.mpr hj))
  · exact of_decide_eq_true (List.all_eq_true.mp (List.all_eq_true.mp dF_ck o (List.mem_range.mpr h)) j (List.mem_range.mpr hj))
theorem cd64 (o : Nat) : 64 * o / 64 = o := Nat.mul_div_cancel_left _ (by decide)
theorem FO_ck : (FLi.all fun e => !decide (e.1.2.2.1 = 64 * e.1.1) || (decide (lw_tbl[e.2]? = some (fLw e.1)) && goodWord (fLw e.1))) = true := by decide +kernel
theorem own_lk {o x b : Nat} (h : (o, x, 64 * o, b) ∈ FLl) : Cond.fieldLink (cn o) x (cn o) (Tf o b).2.1 (Tf o b).2.2.1 ∈ TW := by
  obtain ⟨e, he, h0⟩ := List.mem_map.mp h
  have h1 := List.all_eq_true.mp FO_ck e he
  rw [h0] at h1
  have h1 := (Bool.or_eq_true _ _).mp h1
  rcases h1 with h1 | h1
  · simp at h1
  · simp only [Bool.and_eq_true, decide_eq_true_eq] at h1
    have h3 := tw_i _ h1.1 h1.2
    have h3 : Cond.fieldLink (cn o) x (cn (64 * o / 64)) (Tf (64 * o / 64) b).2.1 (Tf (64 * o / 64) b).2.2.1 ∈ TW := h3
    rw [cd64] at h3
    exact h3
theorem n_get (hC : Cn p R s m args meth c D cA A cc nL own K N) {x : Nat} (hd : decode cc pc = .ok (.getfield x, 3)) (h2 : nGet own x q = some q') (hk : Gn p l e R s m args below meth c Qw D cA A nL g0 n0 (pc + 3) q') : Gn p l e R s m args below meth c Qw D cA A nL g0 n0 pc q := by
  obtain ⟨ls, st, w, k, n⟩ := q
  rcases st with _ | ⟨v, r⟩
  · cases h2
  rcases v with v | v | o | v
  · cases h2
  · cases h2
  · cases hf : fnd own x with
    | none => simp only [nGet, hf] at h2; cases h2
    | some z =>
      have hfl := fnd_in hf
      obtain ⟨z1, z2, a, b⟩ := z
      simp only [nGet, hf] at h2
      split at h2
      · rename_i t fs hw
        split at h2
        · rename_i v hv
          split at h2
          · rename_i hh
            obtain ⟨rfl, rfl, ho, hb⟩ := hh
            cases h2
            intro g H locs la a1 a2 a3 a4 a5 a6 a7
            obtain ⟨b1, b2, b3, b4, b5, b6⟩ := rows_of ho
            have he : (nrW cA g w)[o.2]? = some (g o.2, .inr (t, fs.map (upv (adF g)))) := nrW_get hw
            exact va_get (D := D) (ci := t) (own := cn t) (ref := cn t) (C := cn t) (T := Tf t) (N := nF (64 * t)) hC.1 hC.2.1 hC.2.2.2.2.1 b2 hC.2.2.2.1 hC.2.2.2.2.2.1.1 a3 o.2 he b1 b hb (hC.2.2.2.2.1 _ (own_lk hfl)) (fun y h => by rw [b5 b hb] at h; exact h) (v := upv (adF g) v) (by rw [List.getElem?_map, hv]; rfl) hd (hk g H locs la a1 a2 a3 a4 a5 a6 a7)
          · cases h2
        · cases h2
      · cases h2
  · cases h2
theorem fit_ok {o b : Nat} (ho : o < 12) (hb : b < nF (64 * o)) {g : Nat → Nat} {v : MV} (h : fitB (64 * o) b v = true) : narrow (tyF o b) (upv (adF g) v) = upv (adF g) v ∧ fits (tyF o b) (upv (adF g) v) = true := by
  have h1 := List.all_eq_true.mp (List.all_eq_true.mp ty_ck o (List.mem_range.mpr ho)) b (List.mem_range.mpr hb)
  have h2 := List.all_eq_true.mp (List.all_eq_true.mp oy_ck o (List.mem_range.mpr ho)) b (List.mem_range.mpr hb)
  simp only [Bool.and_eq_true] at h1
  rcases v with x | x | x | x
  · have h : fK (64 * o) b = 0 := of_decide_eq_true h
    rw [h] at h1
    rw [of_decide_eq_true h1.2]
    exact ⟨rfl, rfl⟩
  · cases h
  · have h : 3 ≤ fK (64 * o) b := of_decide_eq_true h
    have hk : (∃ C, tyF o b = .object C) ∨ ∃ C, tyF o b = .array C := by
      generalize fK (64 * o) b = f at h h2
      match f, h with
      | f + 3, _ =>
        generalize tyF o b = ty at h2
        cases ty with
        | object C => exact Or.inl ⟨C, rfl⟩
        | array C => exact Or.inr ⟨C, rfl⟩
        | _ => cases h2
    rcases hk with ⟨C, hc⟩ | ⟨C, hc⟩
    · rw [hc]; exact ⟨rfl, rfl⟩
    · rw [hc]; exact ⟨rfl, rfl⟩
  · cases h
theorem n_put (hC : Cn p R s m args meth c D cA A cc nL own K N) {x : Nat} (hd : decode cc pc = .ok (.putfield x, 3)) (h2 : nPut own N x q = some q') (hk : Gn p l e R s m args below meth c Qw D cA A nL g0 n0 (pc + 3) q') : Gn p l e R s m args below meth c Qw D cA A nL g0 n0 pc q := by
  obtain ⟨ls, st, w, k, n⟩ := q
  rcases st with _ | ⟨v, _ | ⟨u, r⟩⟩
  · cases h2
  · rcases v with v | v | o | v <;> cases h2
  rcases u with u | u | o | u
  · cases h2
  · cases h2
  · cases hf : fnd own x with
    | none => simp only [nPut, hf] at h2; cases h2
    | some z =>
      have hfl := fnd_in hf
      obtain ⟨z1, z2, a, b⟩ := z
      simp only [nPut, hf] at h2
      split at h2
      · rename_i t fs hw
        split at h2
        · rename_i hh
          obtain ⟨rfl, rfl, ho, hb, hN0, hlen, hfit, hok⟩ := hh
          cases h2
          intro g H locs la a1 a2 a3 a4 a5 a6 a7
          obtain ⟨b1, b2, b3, b4, b5, b6⟩ := rows_of ho
          have he : (nrW cA g w)[o.2]? = some (g o.2, .inr (t, fs.map (upv (adF g)))) := nrW_get hw
          obtain ⟨f1, f2⟩ := fit_ok (g := g) ho hb hfit
          have hset : (nrW cA g w).set o.2 (g o.2, .inr (t, (fs.map (upv (adF g))).set b (upv (adF g) v))) = nrW cA g (w.set o.2 (Sum.inl (t, fs.set b v))) := by
            rw [← nrW_set]
            show _ = (nrW cA g w).set o.2 (g o.2, .inr (t, (fs.set b v).map (upv (adF g))))
            rw [List.map_set]
          have hokc : okW (w.set o.2 (Sum.inl (t, fs.set b v))) := by
            refine okW_set a7 ?_
            intro y hy
            rcases List.mem_or_eq_of_mem_set hy with q | q
            · exact a7 _ (List.mem_of_getElem? hw) y q
            · rw [q]; exact hok
          have a2 : n0 ≤ (w.set o.2 (Sum.inl (t, fs.set b v))).length := by rw [List.length_set]; exact a2
          cases hfin : (Tf t b).2.2.2 with
          | true =>
            exact va_putF (D := D) (ci := t) (own := cn t) (ref := cn t) (C := cn t) (T := Tf t) (N := nF (64 * t)) (ty := tyF t b) hC.1 hC.2.1 hC.2.2.2.2.1 b2 (tyF t) b3 b4 hC.2.2.2.1 hC.2.2.2.2.2.1.1 a3 a4 a5 o.2 he b1 b hb (hC.2.2.2.2.1 _ (own_lk hfl)) (fun y h => by rw [b5 b hb] at h; exact h) hfin (hC.2.2.2.2.2.2.2.2.2.2.2 ho hN0) (b5 b hb) (b3 b hb) f1 f2 (by rw [List.length_map, hlen]; exact hb) hd (fun H1 locs1 hP1 hD1 hS1 => hk g H1 locs1 la a1 a2 (by rw [hset] at hP1; exact hP1) (by rw [hset] at hD1; exact hD1) hS1 a6 hokc)
          | false =>
            exact va_put (D := D) (ci := t) (own := cn t) (ref := cn t) (C := cn t) (T := Tf t) (N := nF (64 * t)) (ty := tyF t b) hC.1 hC.2.1 hC.2.2.2.2.1 b2 (tyF t) b3 b4 hC.2.2.2.1 hC.2.2.2.2.2.1.1 a3 a4 a5 o.2 he b1 b hb (hC.2.2.2.2.1 _ (own_lk hfl)) (fun y h => by rw [b5 b hb] at h; exact h) hfin (b3 b hb) f1 f2 (by rw [List.length_map, hlen]; exact hb) hd (fun H1 locs1 hP1 hD1 hS1 => hk g H1 locs1 la a1 a2 (by rw [hset] at hP1; exact hP1) (by rw [hset] at hD1; exact hD1) hS1 a6 hokc)
        · cases h2
      · cases h2
  · cases h2
theorem n_new (hC : Cn p R s m args meth c D cA A cc nL own K N) {x : Nat} (hd : decode cc pc = .ok (.new x, 3)) (h2 : nNew own K N x q = some q') (hk : Gn p l e R s m args below meth c Qw D cA A nL g0 n0 (pc + 3) q') : Gn p l e R s m args below meth c Qw D cA A nL g0 n0 pc q := by
  obtain ⟨ls, st, w, k, n⟩ := q
  cases hf : fnw own x with
  | none => simp only [nNew, hf] at h2; cases h2
  | some z =>
    have hfl := NW_ok (fnw_in hf)
    obtain ⟨z1, z2, o⟩ := z
    simp only [nNew, hf] at h2
    split at h2
    · rename_i hh
      obtain ⟨ho, hkk, hnn, hall⟩ := hh
      obtain ⟨hl1, hl2⟩ := (Bool.and_eq_true _ _).mp hall
      cases h2
      intro g H locs la a1 a2 a3 a4 a5 a6 a7
      obtain ⟨b1, b2, b3, b4, b5, b6⟩ := rows_of ho
      obtain ⟨i1, i2, i3, i4, i5⟩ := CI_ok ho
      rw [i5.2.2.1] at i2
      obtain ⟨d1, d2, d3, d4, d5, d6, d7, d8, d9, dK, dN, d10⟩ := hC
      refine va_new (D := D) (ci := o) (fs := (dF o).map (upv (fun _ _ => 0))) (own := cn own) (C := cn o) (T := Tf o) (N := nF (64 * o)) d1 d2 d5 b2 (tyF o) b3 d4 (d5 _ hfl) (d5 _ i4) (d5 _ i2) d6.1 a3 a4 a5 d7 b1 b6 (Nat.le_trans hkk dK) (Nat.le_trans hnn dN) hd ?_
      intro qa H1 hP1 hD1 hS1
      have eW : nrW cA (gU g w.length qa) (w ++ [Sum.inl (o, dF o)]) = nrW cA g w ++ [(qa, .inr (o, (dF o).map (upv (fun _ _ => 0))))] := by
        rw [nrW_app a7]
        show _ ++ [(qa, Sum.inr (o, (dF o).map (upv (adF (gU g w.length qa)))))] = _
        rw [dF_up]
      have hst : (st.map (upv (adF g))) = st.map (upv (adF (gU g w.length qa))) := (upl_x hl2 gU_lt).symm
      have h3 := hk (gU g w.length qa) H1 locs la (fun i hi => (gU_lt i (Nat.lt_of_lt_of_le hi a2)).trans (a1 i hi)) (by show n0 ≤ (w ++ _).length; rw [List.length_append]; exact Nat.le_trans a2 (Nat.le_add_right _ _)) (by show va_P D CL (nrW cA (gU g w.length qa) (w ++ _)) H1; rw [eW]; exact hP1) (by show va_D A (nrW cA (gU g w.length qa) (w ++ _)); rw [eW]; exact hD1) hS1 (LR_x a6 hl1 gU_lt)
        (okW_app a7 (fun v hv => by rcases dF_no hv with rfl | rfl | rfl <;> rfl))
      have h3 : W p l e R s m args below meth c H1 locs (k + 1) (n + nF (64 * o)) Qw (F0 m (pc + 3) la (.ref (gU g w.length qa w.length) :: st.map (upv (adF (gU g w.length qa))))) := h3
      rw [gU_n, ← hst] at h3
      exact h3
    · cases h2
theorem nwa_on {ls st : List MV} {w : List NC} {k n : Nat} {z : Int32} {a : Nat} {ty : FieldType} {at' : ArrayType} {f0 : (Nat → Int32) ⊕ (Nat → Int64) ⊕ (Nat → UInt32) ⊕ (Nat → UInt64) ⊕ (Nat → Option Nat)}
    (hC : Cn p R s m args meth c D cA A cc nL own K N) (hd : decode cc pc = .ok (.newarray at', 2)) (haw : Cond.arrayClass (newarray.typeOf at') ∈ TW) (hty : newarray.typeOf at' = ty) (hta : (tyL cA)[a]? = some (cA a, ty)) (hlen : (tyL cA).length = 7) (hrc : ∀ g : Nat → Nat, nrC cA g (Sum.inr (Sum.inl (a, z.toNatClampNeg, []))) = .inl (cA a, z.toNatClampNeg, f0))
    (ha : ∀ c0 : ClassId, vp_cell c0 (z.toNatClampNeg, f0) = arrV c0 z.toNatClampNeg (fun _ => defaultValue ty)) (hz : ¬ z < 0) (hby : z.toNatClampNeg * componentBytes ty ≤ 536870912) (hkk : k + 1 ≤ K) (hnn : n + z.toNatClampNeg ≤ N) (hl1 : ls.all (okN w.length) = true) (hl2 : st.all (okN w.length) = true)
    (hk : Gn p l e R s m args below meth c Qw D cA A nL g0 n0 (pc + 2) (ls, vR 0 w.length :: st, w ++ [Sum.inr (Sum.inl (a, z.toNatClampNeg, []))], k + 1, n + z.toNatClampNeg)) : Gn p l e R s m args below meth c Qw D cA A nL g0 n0 pc (ls, vI z :: st, w, k, n) := by
  intro g H locs la a1 a2 a3 a4 a5 a6 a7
  obtain ⟨d1, d2, d3, d4, d5, d6, d7, d8, d9, dK, dN, d10⟩ := hC
  refine va_newa (D := D) (ty := ty) (a0 := (z.toNatClampNeg, f0)) d1 d2 (d5 _ haw) hty d6.1 a3 a4 a5 d7 ha hz rfl hby (Nat.le_trans hkk dK) (Nat.le_trans hnn dN) hd ?_
  intro qa c1 H1 hK1 hP1 hD1 hS1
  have h7 := (hK1.2 7 (c1, ty) (by rw [List.getElem?_append_right (by omega), hlen]; rfl)).2
  have e1 : c1 = cA a := RA_uq h7 (d6.1.2 a _ hta).2
  subst e1
  have eW : nrW cA (gU g w.length qa) (w ++ [Sum.inr (Sum.inl (a, z.toNatClampNeg, []))]) = nrW cA g w ++ [(qa, .inl (cA a, z.toNatClampNeg, f0))] := by
    rw [nrW_app a7, hrc]
  have hst : (st.map (upv (adF g))) = st.map (upv (adF (gU g w.length qa))) := (upl_x hl2 gU_lt).symm
  have h3 := hk (gU g w.length qa) H1 locs la (fun i hi => (gU_lt i (Nat.lt_of_lt_of_le hi a2)).trans (a1 i hi)) (by show n0 ≤ (w ++ _).length; rw [List.length_append]; exact Nat.le_trans a2 (Nat.le_add_right _ _)) (by show va_P D CL (nrW cA (gU g w.length qa) (w ++ _)) H1; rw [eW]; exact hP1) (by show va_D A (nrW cA (gU g w.length qa) (w ++ _)); rw [eW]; exact hD1) hS1 (LR_x a6 hl1 gU_lt) (okW_app a7 trivial)
  have h3 : W p l e R s m args below meth c H1 locs (k + 1) (n + z.toNatClampNeg) Qw (F0 m (pc + 2) la (.ref (gU g w.length qa w.length) :: st.map (upv (adF (gU g w.length qa))))) := h3
  rw [gU_n, ← hst] at h3
  exact h3
theorem n_nwa (hC : Cn p R s m args meth c D cA A cc nL own K N) {t : ArrayType} (hd : decode cc pc = .ok (.newarray t, 2)) (h2 : nNwa K N t q = some q') (hk : Gn p l e R s m args below meth c Qw D cA A nL g0 n0 (pc + 2) q') : Gn p l e R s m args below meth c Qw D cA A nL g0 n0 pc q := by
  obtain ⟨ls, st, w, k, n⟩ := q
  rcases st with _ | ⟨v, r⟩
  · cases t <;> cases h2
  rcases v with z | v
  · have key : ∀ a : Nat, atK t = some a → (if ¬ z < 0 ∧ z.toNatClampNeg ≤ 10000 ∧ k + 1 ≤ K ∧ n + z.toNatClampNeg ≤ N ∧ (ls.all (okN w.length) && r.all (okN w.length)) = true then some (ls, vR 0 w.length :: r, w ++ [Sum.inr (Sum.inl (a, z.toNatClampNeg, []))], k + 1, n + z.toNatClampNeg) else none) = some q' := by
      intro a ha
      simp only [nNwa, ha] at h2
      exact h2
    cases t with
    | int =>
      have h2 := key 0 rfl
      split at h2
      · rename_i hh
        obtain ⟨e1, e2, e3, e4, e5⟩ := hh
        obtain ⟨hl1, hl2⟩ := (Bool.and_eq_true _ _).mp e5
        cases h2
        exact nwa_on (f0 := .inl (fun _ => 0)) hC hd aw_i rfl rfl rfl (fun g => rfl) (fun c0 => rfl) e1 (by show _ * 4 ≤ _; omega) e3 e4 hl1 hl2 hk
      · cases h2
    | byte =>
      have h2 := key 1 rfl
      split at h2
      · rename_i hh
        obtain ⟨e1, e2, e3, e4, e5⟩ := hh
        obtain ⟨hl1, hl2⟩ := (Bool.and_eq_true _ _).mp e5
        cases h2
        exact nwa_on (f0 := .inl (fun _ => 0)) hC hd aw_b rfl rfl rfl (fun g => rfl) (fun c0 => rfl) e1 (by show _ * 1 ≤ _; omega) e3 e4 hl1 hl2 hk
      · cases h2
    | boolean =>
      have h2 := key 2 rfl
      split at h2
      · rename_i hh
        obtain ⟨e1, e2, e3, e4, e5⟩ := hh
        obtain ⟨hl1, hl2⟩ := (Bool.and_eq_true _ _).mp e5
        cases h2
        exact nwa_on (f0 := .inl (fun _ => 0)) hC hd aw_z rfl rfl rfl (fun g => rfl) (fun c0 => rfl) e1 (by show _ * 1 ≤ _; omega) e3 e4 hl1 hl2 hk
      · cases h2
    | long =>
      have h2 := key 3 rfl
      split at h2
      · rename_i hh
        obtain ⟨e1, e2, e3, e4, e5⟩ := hh
        obtain ⟨hl1, hl2⟩ := (Bool.and_eq_true _ _).mp e5
        cases h2
        exact nwa_on (f0 := .inr (.inl (fun _ => 0))) hC hd aw_j rfl rfl rfl (fun g => rfl) (fun c0 => rfl) e1 (by show _ * 8 ≤ _; omega) e3 e4 hl1 hl2 hk
      · cases h2
    | _ => cases h2
  · cases t <;> cases h2
theorem nwq_on {ls st : List MV} {w : List NC} {k n x o : Nat} {z : Int32} {a : Nat}
    (hC : Cn p R s m args meth c D cA A cc nL own K N) (hd : decode cc pc = .ok (.anewarray x, 3)) (hcl : Cond.classLink (cn own) x (cn o) ∈ TW) (hao : va_AO (cn o) s) (hta : (tyL cA)[a]? = some (cA a, .object (cn o))) (hlen : (tyL cA).length = 7)
    (hz : ¬ z < 0) (hby : z.toNatClampNeg ≤ 10000) (hkk : k + 1 ≤ K) (hnn : n + z.toNatClampNeg ≤ N) (hl1 : ls.all (okN w.length) = true) (hl2 : st.all (okN w.length) = true)
    (hk : Gn p l e R s m args below meth c Qw D cA A nL g0 n0 (pc + 3) (ls, vR 0 w.length :: st, w ++ [Sum.inr (Sum.inr (a, z.toNatClampNeg, List.replicate z.toNatClampNeg none))], k + 1, n + z.toNatClampNeg)) : Gn p l e R s m args below meth c Qw D cA A nL g0 n0 pc (ls, vI z :: st, w, k, n) := by
  intro g H locs la a1 a2 a3 a4 a5 a6 a7
  obtain ⟨d1, d2, d3, d4, d5, d6, d7, d8, d9, dK, dN, d10⟩ := hC
  refine va_newq (D := D) d1 d2 d4 (d5 _ hcl) hao d6.1 a3 a4 a5 d7 hz rfl (by omega) (Nat.le_trans hkk dK) (Nat.le_trans hnn dN) hd ?_
  intro qa c1 H1 hK1 hP1 hD1 hS1
  have h7 := (hK1.2 7 (c1, .object (cn o)) (by rw [List.getElem?_append_right (by omega), hlen]; rfl)).2
  have e1 : c1 = cA a := RA_uq h7 (d6.1.2 a _ hta).2
  subst e1
  have ef : (fun k => ((List.replicate z.toNatClampNeg (none : Option Nat)).getD k none).map (gU g w.length qa)) = fun _ => none := by
    funext j
    rw [List.getD_eq_getElem?_getD, List.getElem?_replicate]
    split <;> rfl
  have eW : nrW cA (gU g w.length qa) (w ++ [Sum.inr (Sum.inr (a, z.toNatClampNeg, List.replicate z.toNatClampNeg none))]) = nrW cA g w ++ [(qa, .inl (cA a, z.toNatClampNeg, .inr (.inr (.inr (.inr (fun _ => none))))))] := by
    rw [nrW_app a7]
    show _ ++ [(qa, Sum.inl (cA a, z.toNatClampNeg, Sum.inr (Sum.inr (Sum.inr (Sum.inr (fun k => ((List.replicate z.toNatClampNeg (none : Option Nat)).getD k none).map (gU g w.length qa)))))))] = _
    rw [ef]
  have hst : (st.map (upv (adF g))) = st.map (upv (adF (gU g w.length qa))) := (upl_x hl2 gU_lt).symm
  have h3 := hk (gU g w.length qa) H1 locs la (fun i hi => (gU_lt i (Nat.lt_of_lt_of_le hi a2)).trans (a1 i hi)) (by show n0 ≤ (w ++ _).length; rw [List.length_append]; exact Nat.le_trans a2 (Nat.le_add_right _ _)) (by show va_P D CL (nrW cA (gU g w.length qa) (w ++ _)) H1; rw [eW]; exact hP1) (by show va_D A (nrW cA (gU g w.length qa) (w ++ _)); rw [eW]; exact hD1) hS1 (LR_x a6 hl1 gU_lt) (okW_app a7 (fun y hy i hi => by rw [List.eq_of_mem_replicate hy] at hi; cases hi))
  have h3 : W p l e R s m args below meth c H1 locs (k + 1) (n + z.toNatClampNeg) Qw (F0 m (pc + 3) la (.ref (gU g w.length qa w.length) :: st.map (upv (adF (gU g w.length qa))))) := h3
  rw [gU_n, ← hst] at h3
  exact h3
theorem n_nwq (hC : Cn p R s m args meth c D cA A cc nL own K N) {x : Nat} (hd : decode cc pc = .ok (.anewarray x, 3)) (h2 : nNwq own K N x q = some q') (hk : Gn p l e R s m args below meth c Qw D cA A nL g0 n0 (pc + 3) q') : Gn p l e R s m args below meth c Qw D cA A nL g0 n0 pc q := by
  obtain ⟨ls, st, w, k, n⟩ := q
  cases hf : fnw own x with
  | none => simp only [nNwq, hf] at h2; cases h2
  | some y =>
    have hfl := NW_ok (fnw_in hf)
    obtain ⟨y1, y2, o⟩ := y
    have hfl : Cond.classLink (cn own) x (cn o) ∈ TW := hfl
    rcases st with _ | ⟨v, r⟩
    · simp only [nNwq, hf] at h2; cases h2
    rcases v with z | v
    · simp only [nNwq, hf] at h2
      cases hq : qT o with
      | none => rw [hq] at h2; cases h2
      | some a =>
        rw [hq] at h2
        have h2 : (if ¬ z < 0 ∧ z.toNatClampNeg ≤ 10000 ∧ k + 1 ≤ K ∧ n + z.toNatClampNeg ≤ N ∧ (ls.all (okN w.length) && r.all (okN w.length)) = true then some (ls, vR 0 w.length :: r, w ++ [Sum.inr (Sum.inr (a, z.toNatClampNeg, List.replicate z.toNatClampNeg none))], k + 1, n + z.toNatClampNeg) else none) = some q' := h2
        split at h2
        · rename_i hh
          obtain ⟨e1, e2, e3, e4, e5⟩ := hh
          obtain ⟨hl1, hl2⟩ := (Bool.and_eq_true _ _).mp e5
          cases h2
          unfold qT at hq
          by_cases o4 : o = 4
          · rw [if_pos o4] at hq; cases hq; subst o4
            exact nwq_on hC hd hfl hC.2.2.2.2.2.1.2.2.1 rfl rfl e1 e2 e3 e4 hl1 hl2 hk
          rw [if_neg o4] at hq
          by_cases o10 : o = 10
          · rw [if_pos o10] at hq; cases hq; subst o10
            exact nwq_on hC hd hfl hC.2.2.2.2.2.1.2.2.2.1 rfl rfl e1 e2 e3 e4 hl1 hl2 hk
          rw [if_neg o10] at hq
          by_cases o2 : o = 2
          · rw [if_pos o2] at hq; cases hq; subst o2
            exact nwq_on hC hd hfl hC.2.2.2.2.2.1.2.2.2.2 rfl rfl e1 e2 e3 e4 hl1 hl2 hk
          rw [if_neg o2] at hq
          cases hq
        · cases h2
    · simp only [nNwq, hf] at h2; cases h2
theorem n_aas (hC : Cn p R s m args meth c D cA A cc nL own K N) (hd : decode cc pc = .ok (.aastore, 1)) (h2 : nAas q = some q') (hk : Gn p l e R s m args below meth c Qw D cA A nL g0 n0 (pc + 1) q') : Gn p l e R s m args below meth c Qw D cA A nL g0 n0 pc q := by
  obtain ⟨ls, st, w, k, n⟩ := q
  unfold nAas at h2
  split at h2
  · rename_i v i o r hst
    have hst : st = Sum.inr (Sum.inr (Sum.inl v)) :: Sum.inl i :: Sum.inr (Sum.inr (Sum.inl o)) :: r := hst
    subst hst
    split at h2
    · rename_i t mm es oc fs hw1 hw2
      have hw1 : w[o.2]? = some (Sum.inr (Sum.inr (t, mm, es))) := hw1
      have hw2 : w[v.2]? = some (Sum.inl (oc, fs)) := hw2
      split at h2
      · rename_i hh
        obtain ⟨e1, e2, e3, e4⟩ := hh
        cases h2
        intro g H locs la a1 a2 a3 a4 a5 a6 a7
        obtain ⟨d1, d2, d3, d4, d5, d6, d7, d8, d9, dK, dN, d10⟩ := hC
        have he : (nrW cA g w)[o.2]? = some (g o.2, .inl (cA t, mm, .inr (.inr (.inr (.inr (fun k => (es.getD k none).map g)))))) := nrW_get hw1
        have hv : (nrW cA g w)[v.2]? = some (g v.2, .inr (oc, fs.map (upv (adF g)))) := nrW_get hw2
        have ht : ∃ rr : vw_C, CL[oc]? = some rr ∧ (tyL cA)[t]? = some (cA t, .object rr.1) := by
          unfold qT at e1
          by_cases o4 : oc = 4
          · rw [if_pos o4] at e1; cases e1; subst o4; exact ⟨_, CL_at (by decide), rfl⟩
          rw [if_neg o4] at e1
          by_cases o10 : oc = 10
          · rw [if_pos o10] at e1; cases e1; subst o10; exact ⟨_, CL_at (by decide), rfl⟩
          rw [if_neg o10] at e1
          by_cases o2 : oc = 2
          · rw [if_pos o2] at e1; cases e1; subst o2; exact ⟨_, CL_at (by decide), rfl⟩
          rw [if_neg o2] at e1
          cases e1
        obtain ⟨rr, hc, ht⟩ := ht
        have hvl : v.2 < w.length := (List.getElem?_eq_some_iff.mp hw2).1
        have ef : va_up (fun k => (es.getD k none).map g) i.toNatClampNeg (some (g v.2)) = fun k => ((es.set i.toNatClampNeg (some v.2)).getD k none).map g := by
          funext j
          show (if j = i.toNatClampNeg then some (g v.2) else (es.getD j none).map g) = ((es.set i.toNatClampNeg (some v.2)).getD j none).map g
          rw [List.getD_eq_getElem?_getD, List.getD_eq_getElem?_getD]
          by_cases hj : j = i.toNatClampNeg
          · subst hj
            rw [if_pos rfl, List.getElem?_set_self (by omega)]
            rfl
          · rw [if_neg hj, List.getElem?_set_ne (Ne.symm hj)]
        have hset : (nrW cA g w).set o.2 (g o.2, .inl (cA t, mm, .inr (.inr (.inr (.inr (va_up (fun k => (es.getD k none).map g) i.toNatClampNeg (some (g v.2)))))))) = nrW cA g (w.set o.2 (Sum.inr (Sum.inr (t, mm, es.set i.toNatClampNeg (some v.2))))) := by
          rw [ef, ← nrW_set]
          rfl
        have hokc : okW (w.set o.2 (Sum.inr (Sum.inr (t, mm, es.set i.toNatClampNeg (some v.2))))) := by
          refine okW_set a7 ?_
          intro y hy j hj
          rcases List.mem_or_eq_of_mem_set hy with q | q
          · exact a7 _ (List.mem_of_getElem? hw1) y q j hj
          · rw [q] at hj
            cases hj
            exact hvl
        have a2 : n0 ≤ (w.set o.2 (Sum.inr (Sum.inr (t, mm, es.set i.toNatClampNeg (some v.2))))).length := by rw [List.length_set]; exact a2
        exact va_astq (D := D) d1 d2 d6.1 a3 a4 a5 o.2 t v.2 oc he ht hv hc (i := i) (fun q => by rcases q with q | q; exact e2 q; omega) hd (fun H1 locs1 hP1 hD1 hS1 => hk g H1 locs1 la a1 a2 (by rw [hset] at hP1; exact hP1) (by rw [hset] at hD1; exact hD1) hS1 a6 hokc)
      · cases h2
    · cases h2
  · cases h2
theorem n_ias (hC : Cn p R s m args meth c D cA A cc nL own K N) (hd : decode cc pc = .ok (.iastore, 1)) (h2 : nIas q = some q') (hk : Gn p l e R s m args below meth c Qw D cA A nL g0 n0 (pc + 1) q') : Gn p l e R s m args below meth c Qw D cA A nL g0 n0 pc q := by
  obtain ⟨ls, st, w, k, n⟩ := q
  unfold nIas at h2
  split at h2
  · rename_i x i o r hst
    have hst : st = Sum.inl x :: Sum.inl i :: Sum.inr (Sum.inr (Sum.inl o)) :: r := hst
    subst hst
    split at h2
    · rename_i t mm u hw1
      have hw1 : w[o.2]? = some (Sum.inr (Sum.inl (t, mm, u))) := hw1
      split at h2
      · rename_i hh
        obtain ⟨rfl, e2, e3⟩ := hh
        cases h2
        intro g H locs la a1 a2 a3 a4 a5 a6 a7
        obtain ⟨d1, d2, d3, d4, d5, d6, d7, d8, d9, dK, dN, d10⟩ := hC
        have he : (nrW cA g w)[o.2]? = some (g o.2, .inl (cA 0, mm, .inl (lkp u))) := nrW_get hw1
        have ef : upd (lkp u) i.toNatClampNeg x = lkp ((i.toNatClampNeg, x) :: u) := by
          funext j
          simp only [upd, lkp]
        have hset : (nrW cA g w).set o.2 (g o.2, .inl (cA 0, mm, .inl (upd (lkp u) i.toNatClampNeg x))) = nrW cA g (w.set o.2 (Sum.inr (Sum.inl (0, mm, (i.toNatClampNeg, x) :: u)))) := by
          rw [ef, ← nrW_set]
          rfl
        have a2 : n0 ≤ (w.set o.2 (Sum.inr (Sum.inl (0, mm, (i.toNatClampNeg, x) :: u)))).length := by rw [List.length_set]; exact a2
        exact va_iast (D := D) d1 d2 d6.1 a3 a4 a5 o.2 0 he rfl (i := i) (x := x) (fun q => by rcases q with q | q; exact e2 q; omega) hd (fun H1 locs1 hP1 hD1 hS1 => hk g H1 locs1 la a1 a2 (by rw [hset] at hP1; exact hP1) (by rw [hset] at hD1; exact hD1) hS1 a6 (okW_set a7 trivial))
      · cases h2
    · cases h2
  · cases h2
theorem n_all (hC : Cn p R s m args meth c D cA A cc nL own K N) {i : Instr} {len : Nat} (hd : decode cc pc = .ok (i, len)) (hlen : len = ilN i) (h2 : nS own K N i q = some q') (hk : Gn p l e R s m args below meth c Qw D cA A nL g0 n0 (pc + len) q') : Gn p l e R s m args below meth c Qw D cA A nL g0 n0 pc q := by
  subst hlen
  cases i with
  | aload_n a => exact n_aload hC hd h2 hk
  | iload_n a => exact n_iload hC hd h2 hk
  | istore_n a => exact n_istore hC hd h2 hk
  | astore_n a => exact n_astore hC hd h2 hk
  | iconst z => exact n_iconst hC hd h2 hk
  | bipush z => exact n_bipush hC hd h2 hk
  | sipush z => exact n_sipush hC hd h2 hk
  | iinc a z => exact n_iinc hC hd h2 hk
  | dup => exact n_dup hC hd h2 hk
  | getfield x => exact n_get hC hd h2 hk
  | putfield x => exact n_put hC hd h2 hk
  | new x => exact n_new hC hd h2 hk
  | newarray t => exact n_nwa hC hd h2 hk
  | anewarray x => exact n_nwq hC hd h2 hk
  | aastore => exact n_aas hC hd h2 hk
  | iastore => exact n_ias hC hd h2 hk
  | _ => cases h2
end NI

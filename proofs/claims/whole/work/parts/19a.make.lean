/-! THE MAKING: the constructors, run. A world is the list of its cells in the order of their making; a reference is a place in it. The tables are printed by wip/whole/gen/make.py. -/
def yI (c : Nat) : MTy := match c with
  | 0 => (0, prog_1_method_1_code, 2, none, ⟨"CoachWaits", "<init>", "()V"⟩)
  | 1 => (1, prog_10_method_1_code, 1, none, ⟨"CoachWaits$Tokens", "<init>", "()V"⟩)
  | 2 => (2, prog_8_method_1_code, 1, none, ⟨"CoachWaits$Road", "<init>", "()V"⟩)
  | 3 => (3, prog_6_method_1_code, 3, none, ⟨"CoachWaits$Reader", "<init>", "(LCoachWaits$Tokens;LCoachWaits$Road;)V"⟩)
  | 4 => (4, prog_9_method_1_code, 1, none, ⟨"CoachWaits$Stand", "<init>", "()V"⟩)
  | 5 => (5, prog_3_method_1_code, 2, none, ⟨"CoachWaits$Going", "<init>", "(LCoachWaits$Road;)V"⟩)
  | 6 => (6, prog_4_method_1_code, 1, none, ⟨"CoachWaits$Law", "<init>", "()V"⟩)
  | 7 => (7, prog_7_method_1_code, 4, none, ⟨"CoachWaits$Rings", "<init>", "(LCoachWaits$Road;LCoachWaits$Going;LCoachWaits$Stand;)V"⟩)
  | 8 => (8, prog_2_method_1_code, 4, none, ⟨"CoachWaits$Branches", "<init>", "(LCoachWaits$Road;LCoachWaits$Going;)V"⟩)
  | 9 => (9, prog_5_method_1_code, 2, none, ⟨"CoachWaits$Past", "<init>", "()V"⟩)
  | 10 => (10, prog_11_method_1_code, 1, none, ⟨"CoachWaits$Tray", "<init>", "()V"⟩)
  | _ => (11, prog_13_method_3_code, 1, none, ⟨"CoachWaitsModel", "<init>", "()V"⟩)
def stI (c : Nat) : Nat := [261, 13, 66, 19, 28, 74, 19, 45, 56, 40, 17, 162].getD c 0
/-- room for a constructor: cells, slots -/
def bg (c : Nat) : Nat × Nat := [(1000, 300000), (10, 3000), (10, 3000), (10, 3000), (10, 3000), (100, 20000), (10, 3000), (10, 3000), (100, 30000), (120, 40000), (10, 3000), (20, 20000)].getD c (0, 0)
/-- code, initialized, instanceMethod, instantiable of a constructor, in the tables -/
def CIi : List (Nat × Nat × Nat × Nat) := [(151, 126, 150, 148), (159, 127, 158, 156), (188, 128, 187, 185), (274, 129, 273, 271), (296, 130, 295, 293), (323, 131, 322, 320), (329, 132, 328, 326), (373, 133, 372, 370), (401, 134, 400, 398), (423, 135, 422, 420), (443, 136, 442, 440), (1450, 137, 1449, 1447)]
def NWi : List ((Nat × Nat × Nat) × Nat) := [((12, 7, 0), 147), ((0, 7, 1), 155), ((0, 16, 2), 184), ((0, 26, 3), 270), ((0, 35, 4), 292), ((0, 48, 5), 319), ((5, 9, 6), 325), ((0, 57, 7), 369), ((0, 66, 8), 397), ((8, 11, 4), 403), ((0, 75, 9), 419), ((9, 9, 4), 425), ((0, 82, 10), 437), ((12, 10, 11), 1446)]
/-- own, place, whose constructor (99: Object), parameters, nest (1) -/
def NKi : List ((Nat × Nat × Nat × Nat × Nat) × Nat) := [((12, 9, 0, 0, 0), 149), ((0, 1, 99, 0, 0), 152), ((0, 9, 1, 0, 1), 157), ((1, 3, 99, 0, 0), 160), ((0, 18, 2, 0, 1), 186), ((2, 3, 99, 0, 0), 189), ((0, 28, 3, 2, 0), 272), ((3, 3, 99, 0, 0), 275), ((0, 37, 4, 0, 1), 294), ((4, 3, 99, 0, 0), 297), ((0, 50, 5, 1, 0), 321), ((5, 3, 99, 0, 0), 324), ((5, 11, 6, 0, 1), 327), ((6, 3, 99, 0, 0), 330), ((0, 59, 7, 3, 0), 371), ((7, 3, 99, 0, 0), 374), ((0, 68, 8, 2, 0), 399), ((8, 3, 99, 0, 0), 402), ((8, 29, 4, 0, 1), 405), ((0, 77, 9, 0, 0), 421), ((9, 3, 99, 0, 0), 424), ((9, 17, 4, 0, 1), 426), ((0, 104, 10, 0, 1), 441), ((10, 3, 99, 0, 0), 444), ((12, 12, 11, 0, 0), 1448), ((11, 7, 99, 0, 0), 1451)]
theorem oI_in : Cond.instanceMethod Lib.objectInit ∈ TW := tw_i 153 (by decide +kernel) rfl
theorem oI_cd : Cond.code Lib.objectInit ⟨#[0xb1]⟩ 1 none ∈ TW := tw_i 154 (by decide +kernel) rfl
theorem aw_i : Cond.arrayClass .int ∈ TW := tw_i 269 (by decide +kernel) rfl
theorem aw_b : Cond.arrayClass .byte ∈ TW := tw_i 183 (by decide +kernel) rfl
theorem aw_z : Cond.arrayClass .boolean ∈ TW := tw_i 455 (by decide +kernel) rfl
theorem aw_j : Cond.arrayClass .long ∈ TW := tw_i 456 (by decide +kernel) rfl
theorem ao_S : Cond.arrayOver (.object "CoachWaits$Stand") ∈ lw_tbl := List.mem_of_getElem? (i := 404) (by decide +kernel)
theorem ao_T : Cond.arrayOver (.object "CoachWaits$Tray") ∈ lw_tbl := List.mem_of_getElem? (i := 438) (by decide +kernel)
theorem ao_R : Cond.arrayOver (.object "CoachWaits$Road") ∈ lw_tbl := List.mem_of_getElem? (i := 439) (by decide +kernel)
def isNestM : Cond → Bool
  | .methodLinkNest .. => true
  | _ => false
def NMl : List Cond := lw_tbl.filter isNestM
theorem nm_i {w : Cond} (i : Nat) (h : lw_tbl[i]? = some w) (g : isNestM w = true) : w ∈ NMl := List.mem_filter.mpr ⟨List.mem_of_getElem? h, g⟩
def okI (c : Nat) : Prop := Cond.code (yI c).2.2.2.2 (yI c).2.1 (yI c).2.2.1 none ∈ TW ∧ Cond.initialized (yI c).2.2.2.2.cls ∈ TW ∧ Cond.instanceMethod (yI c).2.2.2.2 ∈ TW ∧ Cond.instantiable (cn c) (nF (64 * c)) ∈ TW ∧
  ((yI c).1 = c ∧ (yI c).2.2.2.1 = none ∧ (yI c).2.2.2.2.cls = cn c ∧ plainFor (yI c).2.2.2.2 = true ∧ (yI c).2.2.2.2.name = "<init>" ∧ (yI c).2.2.2.2.cls ≠ "java/lang/invoke/MethodHandle" ∧ (yI c).2.2.2.2.cls ≠ "java/lang/invoke/VarHandle" ∧ (yI c).2.2.1 ≤ 20 ∧ decode (yI c).2.1 (stI c) = .ok (.return_, 1))
def ckI (c : Nat) : Bool := match CIi[c]? with
  | some (a, b, d, e) => decide (lw_tbl[a]? = some (Cond.code (yI c).2.2.2.2 (yI c).2.1 (yI c).2.2.1 none)) && goodWord (Cond.code (yI c).2.2.2.2 (yI c).2.1 (yI c).2.2.1 none) && decide (lw_tbl[b]? = some (Cond.initialized (yI c).2.2.2.2.cls)) && decide (lw_tbl[d]? = some (Cond.instanceMethod (yI c).2.2.2.2)) && decide (lw_tbl[e]? = some (Cond.instantiable (cn c) (nF (64 * c)))) &&
     decide ((yI c).1 = c ∧ (yI c).2.2.2.1 = none ∧ (yI c).2.2.2.2.cls = cn c ∧ plainFor (yI c).2.2.2.2 = true ∧ (yI c).2.2.2.2.name = "<init>" ∧ (yI c).2.2.2.2.cls ≠ "java/lang/invoke/MethodHandle" ∧ (yI c).2.2.2.2.cls ≠ "java/lang/invoke/VarHandle" ∧ (yI c).2.2.1 ≤ 20 ∧ decode (yI c).2.1 (stI c) = .ok (.return_, 1))
  | none => false
theorem CI_ck : ((List.range 12).all ckI) = true := by decide +kernel
theorem CI_ok {c : Nat} (h : c < 12) : okI c := by
  have h1 := List.all_eq_true.mp CI_ck c (List.mem_range.mpr h)
  unfold ckI at h1
  split at h1
  · simp only [Bool.and_eq_true, decide_eq_true_eq] at h1
    exact ⟨tw_i _ h1.1.1.1.1.1 h1.1.1.1.1.2, tw_i _ h1.1.1.1.2 rfl, tw_i _ h1.1.1.2 rfl, tw_i _ h1.1.2 rfl, h1.2⟩
  · cases h1
def NWt : List (Nat × Nat × Nat) := NWi.map (·.1)
theorem NW_ck : (NWi.all fun e => decide (lw_tbl[e.2]? = some (.classLink (cn e.1.1) e.1.2.1 (cn e.1.2.2)))) = true := by decide +kernel
theorem NW_ok {q : Nat × Nat × Nat} (h : q ∈ NWt) : Cond.classLink (cn q.1) q.2.1 (cn q.2.2) ∈ TW := by
  obtain ⟨e, he, rfl⟩ := List.mem_map.mp h
  have h1 := List.all_eq_true.mp NW_ck e he
  simp only [decide_eq_true_eq] at h1
  exact tw_i _ h1 rfl
def NKt : List (Nat × Nat × Nat × Nat × Nat) := NKi.map (·.1)
def okK (q : Nat × Nat × Nat × Nat × Nat) : Prop := if q.2.2.1 = 99 then Cond.methodLink (cn q.1) q.2.1 Lib.objectInit ∈ TW else
  (if q.2.2.2.2 = 1 then Cond.methodLinkNest (cn q.1) q.2.1 (yI q.2.2.1).2.2.2.2 "CoachWaits" ∈ NMl else Cond.methodLink (cn q.1) q.2.1 (yI q.2.2.1).2.2.2.2 ∈ TW) ∧ (parseMethodDescriptor (yI q.2.2.1).2.2.2.2.desc).map (fun d => d.parameters.length) = some q.2.2.2.1 ∧ q.2.2.1 < 12
def ckK (e : (Nat × Nat × Nat × Nat × Nat) × Nat) : Bool := if e.1.2.2.1 = 99 then decide (lw_tbl[e.2]? = some (Cond.methodLink (cn e.1.1) e.1.2.1 Lib.objectInit)) else
  (if e.1.2.2.2.2 = 1 then decide (lw_tbl[e.2]? = some (Cond.methodLinkNest (cn e.1.1) e.1.2.1 (yI e.1.2.2.1).2.2.2.2 "CoachWaits")) else decide (lw_tbl[e.2]? = some (Cond.methodLink (cn e.1.1) e.1.2.1 (yI e.1.2.2.1).2.2.2.2))) && decide ((parseMethodDescriptor (yI e.1.2.2.1).2.2.2.2.desc).map (fun d => d.parameters.length) = some e.1.2.2.2.1) && decide (e.1.2.2.1 < 12)
theorem NK_ck : NKi.all ckK = true := by decide +kernel
theorem NK_ok {q : Nat × Nat × Nat × Nat × Nat} (h : q ∈ NKt) : okK q := by
  obtain ⟨e, he, rfl⟩ := List.mem_map.mp h
  have h1 := List.all_eq_true.mp NK_ck e he
  unfold ckK at h1
  unfold okK
  by_cases h9 : e.1.2.2.1 = 99
  · rw [if_pos h9] at h1 ⊢
    exact tw_i _ (of_decide_eq_true h1) rfl
  · rw [if_neg h9] at h1 ⊢
    by_cases h2 : e.1.2.2.2.2 = 1
    · rw [if_pos h2] at h1 ⊢
      simp only [Bool.and_eq_true, decide_eq_true_eq] at h1
      exact ⟨nm_i _ h1.1.1 rfl, h1.1.2, h1.2⟩
    · rw [if_neg h2] at h1 ⊢
      simp only [Bool.and_eq_true, decide_eq_true_eq] at h1
      exact ⟨tw_i _ h1.1.1 rfl, h1.1.2, h1.2⟩
/-! cells and worlds -/
abbrev NC : Type := (Nat × List MV) ⊕ (Nat × Nat × List (Nat × Int32)) ⊕ (Nat × Nat × List (Option Nat))
abbrev NQ : Type := List MV × List MV × List NC × Nat × Nat
def adF (g : Nat → Nat) : Nat → Nat → Nat := fun _ i => g i
def lkp : List (Nat × Int32) → Nat → Int32
  | [], _ => 0
  | e :: r, k => if k = e.1 then e.2 else lkp r k
def nrC (cA : Nat → ClassId) (g : Nat → Nat) (c : NC) : va_E := match c with
  | Sum.inl (t, fs) => .inr (t, fs.map (upv (adF g)))
  | Sum.inr (Sum.inl (t, n, u)) => .inl (cA t, n, if t = 3 then .inr (.inl (fun _ => 0)) else .inl (lkp u))
  | Sum.inr (Sum.inr (t, n, es)) => .inl (cA t, n, .inr (.inr (.inr (.inr (fun k => (es.getD k none).map g)))))
def nrW (cA : Nat → ClassId) (g : Nat → Nat) (w : List NC) : va_W := w.mapIdx (fun i c => (g i, nrC cA g c))
def okN (n : Nat) (v : MV) : Bool := match v with
  | Sum.inr (Sum.inr (Sum.inl (_, i))) => decide (i < n)
  | _ => true
def okC (n : Nat) (c : NC) : Prop := match c with
  | Sum.inl (_, fs) => ∀ v ∈ fs, okN n v = true
  | Sum.inr (Sum.inl _) => True
  | Sum.inr (Sum.inr (_, _, es)) => ∀ e ∈ es, ∀ i : Nat, e = some i → i < n
def okW (w : List NC) : Prop := ∀ c ∈ w, okC w.length c
theorem okN_le {n k : Nat} {v : MV} (h : okN n v = true) (hk : n ≤ k) : okN k v = true := by
  rcases v with v | v | ⟨r, i⟩ | v
  · rfl
  · rfl
  · have h : i < n := of_decide_eq_true h
    exact decide_eq_true (Nat.lt_of_lt_of_le h hk)
  · rfl
theorem okC_le {n k : Nat} {c : NC} (h : okC n c) (hk : n ≤ k) : okC k c := by
  rcases c with ⟨t, fs⟩ | ⟨t, m, u⟩ | ⟨t, m, es⟩
  · exact fun v hv => okN_le (h v hv) hk
  · trivial
  · exact fun e he i hi => Nat.lt_of_lt_of_le (h e he i hi) hk
theorem okW_app {w : List NC} {c : NC} (h : okW w) (hc : okC (w.length + 1) c) : okW (w ++ [c]) := by
  intro x hx
  rw [List.length_append]
  rcases List.mem_append.mp hx with q | q
  · exact okC_le (h x q) (Nat.le_add_right _ _)
  · rw [List.mem_singleton.mp q]
    exact hc
theorem okW_set {w : List NC} {c : NC} {o : Nat} (h : okW w) (hc : okC w.length c) : okW (w.set o c) := by
  intro x hx
  rw [List.length_set]
  rcases List.mem_or_eq_of_mem_set hx with q | q
  · exact h x q
  · rw [q]
    exact hc
theorem upv_x {g g' : Nat → Nat} {n : Nat} {v : MV} (h : okN n v = true) (hg : ∀ i : Nat, i < n → g' i = g i) : upv (adF g') v = upv (adF g) v := by
  rcases v with v | v | ⟨r, i⟩ | v
  · rfl
  · rfl
  · have h : i < n := of_decide_eq_true h
    show Value.ref (g' i) = Value.ref (g i)
    rw [hg i h]
  · cases v <;> rfl
theorem upl_x {g g' : Nat → Nat} {n : Nat} {l : List MV} (h : l.all (okN n) = true) (hg : ∀ i : Nat, i < n → g' i = g i) : l.map (upv (adF g')) = l.map (upv (adF g)) :=
  List.map_congr_left (fun v hv => upv_x (List.all_eq_true.mp h v hv) hg)
theorem nrC_x {cA : Nat → ClassId} {g g' : Nat → Nat} {n : Nat} {c : NC} (h : okC n c) (hg : ∀ i : Nat, i < n → g' i = g i) : nrC cA g' c = nrC cA g c := by
  rcases c with ⟨t, fs⟩ | ⟨t, m, u⟩ | ⟨t, m, es⟩
  · show Sum.inr (t, fs.map (upv (adF g'))) = Sum.inr (t, fs.map (upv (adF g)))
    rw [List.map_congr_left (fun v hv => upv_x (h v hv) hg)]
  · rfl
  · have e : (fun k => (es.getD k none).map g') = (fun k => (es.getD k none).map g) := by
      funext k
      rw [List.getD_eq_getElem?_getD]
      cases hk : es[k]? with
      | none => rfl
      | some x =>
        cases x with
        | none => rfl
        | some i =>
          show some (g' i) = some (g i)
          rw [hg i (h (some i) (List.mem_of_getElem? hk) i rfl)]
    show Sum.inl (cA t, m, _) = Sum.inl (cA t, m, _)
    rw [e]
theorem nrW_get {cA : Nat → ClassId} {g : Nat → Nat} {w : List NC} {i : Nat} {c : NC} (h : w[i]? = some c) : (nrW cA g w)[i]? = some (g i, nrC cA g c) := by
  unfold nrW
  rw [List.getElem?_mapIdx, h]
  rfl
theorem nrW_x {cA : Nat → ClassId} {g g' : Nat → Nat} {w : List NC} (h : okW w) (hg : ∀ i : Nat, i < w.length → g' i = g i) : nrW cA g' w = nrW cA g w := by
  apply List.ext_getElem?
  intro i
  cases hi : w[i]? with
  | none => simp [nrW, hi]
  | some c =>
    rw [nrW_get hi, nrW_get hi, nrC_x (h c (List.mem_of_getElem? hi)) hg, hg i (List.getElem?_eq_some_iff.mp hi).1]
def gU (g : Nat → Nat) (n q : Nat) : Nat → Nat := fun i => if i = n then q else g i
theorem gU_lt {g : Nat → Nat} {n q : Nat} : ∀ i : Nat, i < n → gU g n q i = g i := fun i hi => if_neg (Nat.ne_of_lt hi)
theorem gU_n {g : Nat → Nat} {n q : Nat} : gU g n q n = q := if_pos rfl
theorem nrW_app {cA : Nat → ClassId} {g : Nat → Nat} {w : List NC} {q : Nat} {c : NC} (h : okW w) : nrW cA (gU g w.length q) (w ++ [c]) = nrW cA g w ++ [(q, nrC cA (gU g w.length q) c)] := by
  have e : nrW cA (gU g w.length q) (w ++ [c]) = nrW cA (gU g w.length q) w ++ [(gU g w.length q w.length, nrC cA (gU g w.length q) c)] := by
    unfold nrW
    rw [List.mapIdx_concat]
  rw [e, nrW_x h gU_lt, gU_n]
theorem nrW_set {cA : Nat → ClassId} {g : Nat → Nat} {w : List NC} {o : Nat} {c : NC} : (nrW cA g w).set o (g o, nrC cA g c) = nrW cA g (w.set o c) := by
  unfold nrW
  rw [List.mapIdx_set]
theorem LR_x {g g' : Nat → Nat} {n nL : Nat} {la : Array Slot} {ls : List MV} (hL : LR (adF g) nL la ls) (h : ls.all (okN n) = true) (hg : ∀ i : Nat, i < n → g' i = g i) : LR (adF g') nL la ls :=
  ⟨hL.1, hL.2.1, hL.2.2.1, fun k v hk hv => by rw [upv_x (List.all_eq_true.mp h v (List.mem_of_getElem? hk)) hg]; exact hL.2.2.2 k v hk hv⟩
/-- what the making needs of the tables -/
def KN (D : va_G) (cA : Nat → ClassId) (U : State) : Prop := va_K D CL (tyL cA) U ∧ (∀ w ∈ NMl, va_Nw w U) ∧ va_AO "CoachWaits$Stand" U ∧ va_AO "CoachWaits$Tray" U ∧ va_AO "CoachWaits$Road" U
theorem KN_warm {D : va_G} {cA : Nat → ClassId} {s U : State} (hW : s.WarmedH U.vm) (h : KN D cA s) : KN D cA U := by
  refine ⟨va_K.moved hW.alike h.1, fun w hw => ?_, va_AO.moved hW.alike h.2.2.1, va_AO.moved hW.alike h.2.2.2.1, va_AO.moved hW.alike h.2.2.2.2⟩
  have hn := (List.mem_filter.mp hw).2
  have h1 := h.2.1 w hw
  cases w with
  | methodLinkNest a i x hh => exact va_Nw.warmM hW h1
  | _ => exact absurd hn (by simp [isNestM])
theorem KN_same {D : va_G} {cA : Nat → ClassId} {u U : State} (hv : U.vm = u.vm) (h : KN D cA u) : KN D cA U := by
  have ha : u.vm.Alike U.vm := by rw [hv]; exact Vm.Alike.refl _
  refine ⟨va_K.moved ha h.1, fun w hw => ?_, va_AO.moved ha h.2.2.1, va_AO.moved ha h.2.2.2.1, va_AO.moved ha h.2.2.2.2⟩
  have hn := (List.mem_filter.mp hw).2
  have h1 := h.2.1 w hw
  cases w with
  | methodLinkNest a i x hh => exact va_Nw.same rfl hv.symm h1
  | _ => exact absurd hn (by simp [isNestM])
theorem RA_uq {s : State} {c1 c2 : ClassId} {ty : FieldType} (h1 : va_RA s c1 ty) (h2 : va_RA s c2 ty) : c1 = c2 := by
  cases ty with
  | object C =>
    obtain ⟨_, _, _, _, _, a⟩ := h1
    obtain ⟨_, _, _, _, _, b⟩ := h2
    exact Option.some.inj (a.symm.trans b)
  | _ => exact Option.some.inj (Eq.symm (Eq.trans (Eq.symm h2) h1))
/-- the fields of a fresh object -/
def dF (c : Nat) : List MV := (List.range (nF (64 * c))).map (fun j => match fK (64 * c) j with
  | 0 => vI 0
  | 1 => vI 0
  | 2 => vL 0
  | _ => vN)
theorem dF_no {c : Nat} {v : MV} (h : v ∈ dF c) : v = vI 0 ∨ v = vL 0 ∨ v = vN := by
  obtain ⟨j, _, rfl⟩ := List.mem_map.mp h
  split
  · exact Or.inl rfl
  · exact Or.inl rfl
  · exact Or.inr (Or.inl rfl)
  · exact Or.inr (Or.inr rfl)
theorem dF_up (c : Nat) (ad : Nat → Nat → Nat) : (dF c).map (upv ad) = (dF c).map (upv (fun _ _ => 0)) := by
  apply List.map_congr_left
  intro v hv
  rcases dF_no hv with rfl | rfl | rfl <;> rfl
theorem dF_ck : ((List.range 12).all fun c => (List.range (nF (64 * c))).all fun j => decide (defaultValue (tyF c j) = vp_V ((dF c).map (upv (fun _ _ => 0))) j)) = true := by decide +kernel
theorem oy_ck : ((List.range 12).all fun c => (List.range (nF (64 * c))).all fun j => match fK (64 * c) j with
  | 0 => true
  | 1 => true
  | 2 => true
  | _ => match tyF c j with
    | .object _ => true
    | .array _ => true
    | _ => false) = true := by decide +kernel

/-! what the small machine's state is in the real heap -/
def upv (ad : Nat → Nat → Nat) (v : MV) : Value := match v with
  | Sum.inl x => .int x
  | Sum.inr (Sum.inl x) => .long x
  | Sum.inr (Sum.inr (Sum.inl (r, i))) => .ref (ad r i)
  | Sum.inr (Sum.inr (Sum.inr false)) => .null
  | Sum.inr (Sum.inr (Sum.inr true)) => .retAddr 0
def okv (v : MV) : Prop := match v with
  | Sum.inr (Sum.inr (Sum.inl (r, i))) => i < cnt r
  | _ => True
abbrev okl (l : List MV) : Prop := ∀ v ∈ l, okv v
def tyL (cA : Nat → ClassId) : List (ClassId × FieldType) := [(cA 0, .int), (cA 1, .byte), (cA 2, .boolean), (cA 3, .long), (cA 4, .object "CoachWaits$Stand"), (cA 5, .object "CoachWaits$Tray"), (cA 6, .object "CoachWaits$Road")]
def fv (ad : Nat → Nat → Nat) (I : MI) (L : ML) (r i j : Nat) : Value := match fK r j with
  | 0 => .int (I r i j)
  | 1 => .int (I r i j)
  | 2 => .long (L r i j)
  | 3 => .ref (ad (oR r j).1 (oR r j).2)
  | _ => .ref (ad (r + 1 + j) i)
def ar (ad : Nat → Nat → Nat) (I : MI) (L : ML) (r i : Nat) : (Nat → Int32) ⊕ (Nat → Int64) ⊕ (Nat → UInt32) ⊕ (Nat → UInt64) ⊕ (Nat → Option Nat) := match (aK r).1 with
  | 0 => .inl (I r i)
  | 1 => .inl (I r i)
  | 2 => .inl (I r i)
  | 3 => .inr (.inl (L r i))
  | _ => .inr (.inr (.inr (.inr (fun k => some (ad (eR r).1 ((eR r).2 + k))))))
def cel (ad : Nat → Nat → Nat) (cA : Nat → ClassId) (I : MI) (L : ML) (r i : Nat) : va_E :=
  if r % 64 = 0 then .inr (r / 64, (List.range (nF r)).map (fv ad I L r i)) else .inl (cA (aK r).1, (aK r).2, ar ad I L r i)
def wsI (ad : Nat → Nat → Nat) (cA : Nat → ClassId) (I : MI) (L : ML) : va_W := CE.map (fun q => (ad q.1 q.2, cel ad cA I L q.1 q.2))
def Kt (D : va_G) (cA : Nat → ClassId) (ad : Nat → Nat → Nat) (U : State) : Prop := va_K D CL (tyL cA) U ∧ (∀ w ∈ NWl, va_Nw w U) ∧ ∀ q ∈ SKl, vk_R (cn q.1) q.2.1 (sTx.getD q.2.2 "") (ad 4000 q.2.2) U
def Sh (ad : Nat → Nat → Nat) (A : Nat → Prop) (Ls : Nat) (xs : Nat → Int32) (U : State) (H : Heap) : Prop := vk_S sLen.length sLen sByt (ad 4000) (ad 4001) A U H ∧ va_Z "java/lang/String" "COMPACT_STRINGS" "Z" (.int 1) A U H ∧ va_X (ad 4002 0) Ls xs U H ∧ ad 4002 0 < H.size ∧ ¬ A (ad 4002 0) ∧ (va_Z "jdk/internal/util/Preconditions" "SIOOBE_FORMATTER" "Ljava/util/function/BiFunction;" .null A U H ∨ va_Z "jdk/internal/util/Preconditions" "SIOOBE_FORMATTER" "Ljava/util/function/BiFunction;" (.ref (ad 4004 0)) A U H)
def Ad (ad : Nat → Nat → Nat) (A : Nat → Prop) : Prop := (∀ q ∈ CE, ∀ q' ∈ CE, ad q.1 q.2 = ad q'.1 q'.2 → q = q') ∧ ∀ q ∈ CE, A (ad q.1 q.2)
def Sc (Ls : Nat) (xs : Nat → Int32) (I : MI) : Prop := I 4002 0 = xs ∧ I 4003 0 0 = Int32.ofNat Ls ∧ Ls < 2 ^ 31
theorem cnt_s : cnt 4000 = sLen.length ∧ cnt 4001 = sLen.length := by decide
theorem nF_c (a : Nat) : nF (64 * (a / 64)) = nF a := by
  unfold nF
  rw [Nat.mul_div_cancel_left _ (by decide : 0 < 64)]
theorem fK_c (a j : Nat) : fK (64 * (a / 64)) j = fK a j := by
  unfold fK
  rw [Nat.mul_div_cancel_left _ (by decide : 0 < 64)]
theorem cel_congr {ad : Nat → Nat → Nat} {cA : Nat → ClassId} {I I' : MI} {L L' : ML} {r i : Nat} (h1 : I' r i = I r i) (h2 : L' r i = L r i) : cel ad cA I' L' r i = cel ad cA I L r i := by
  have e : fv ad I' L' r i = fv ad I L r i := by
    funext j
    unfold fv
    rw [h1, h2]
  unfold cel ar
  rw [e, h1, h2]
theorem ui_off {I : MI} {r i k : Nat} {x : Int32} {a b : Nat} (h : ¬ (a = r ∧ b = i)) : ui I r i k x a b = I a b := by
  funext j
  unfold ui
  rw [if_neg (fun q => h ⟨q.1, q.2.1⟩)]
theorem ul_off {L : ML} {r i k : Nat} {x : Int64} {a b : Nat} (h : ¬ (a = r ∧ b = i)) : ul L r i k x a b = L a b := by
  funext j
  unfold ul
  rw [if_neg (fun q => h ⟨q.1, q.2.1⟩)]
theorem ua_off {I : MI} {r i : Nat} {f : Nat → Int32} {a b : Nat} (h : ¬ (a = r ∧ b = i)) : ua I r i f a b = I a b := by
  funext j
  unfold ua
  rw [if_neg h]
theorem ui_on {I : MI} {r i k : Nat} {x : Int32} : ui I r i k x r i = upd (I r i) k x := by
  funext j
  simp [ui, upd]
theorem ul_on {L : ML} {r i k : Nat} {x : Int64} : ul L r i k x r i = vp_updL (L r i) k x := by
  funext j
  simp [ul, vp_updL]
theorem ua_on {I : MI} {r i : Nat} {f : Nat → Int32} : ua I r i f r i = f := by
  funext j
  simp [ua]
section WsI
variable {ad : Nat → Nat → Nat} {cA : Nat → ClassId} {I I' : MI} {L L' : ML} {A : Nat → Prop}
theorem wsI_get {q0 : Nat} {q : Nat × Nat} (h : CE[q0]? = some q) : (wsI ad cA I L)[q0]? = some (ad q.1 q.2, cel ad cA I L q.1 q.2) := by
  simp [wsI, h]
theorem wsI_at {r i : Nat} (hr : r < 768) (h : i < cnt r) : ∃ q0 : Nat, CE[q0]? = some (r, i) ∧ (wsI ad cA I L)[q0]? = some (ad r i, cel ad cA I L r i) := by
  obtain ⟨q0, h0⟩ := List.getElem?_of_mem (CE_in hr h)
  exact ⟨q0, h0, wsI_get h0⟩
theorem CE_inj {i j : Nat} {q : Nat × Nat} (h1 : CE[i]? = some q) (h2 : CE[j]? = some q) : i = j := by
  obtain ⟨a1, e1⟩ := List.getElem?_eq_some_iff.mp h1
  obtain ⟨a2, e2⟩ := List.getElem?_eq_some_iff.mp h2
  have hp := List.pairwise_iff_getElem.mp CE_nd
  rcases Nat.lt_trichotomy i j with h | h | h
  · exact absurd (e1.trans e2.symm) (hp i j a1 a2 h)
  · exact h
  · exact absurd (e2.trans e1.symm) (hp j i a2 a1 h)
theorem wsI_set {q0 r i : Nat} (h0 : CE[q0]? = some (r, i)) (hoff : ∀ a b : Nat, ¬ (a = r ∧ b = i) → I' a b = I a b ∧ L' a b = L a b) : (wsI ad cA I L).set q0 (ad r i, cel ad cA I' L' r i) = wsI ad cA I' L' := by
  apply List.ext_getElem?
  intro k
  by_cases hk : q0 = k
  · subst hk
    have hl : q0 < (wsI ad cA I L).length := by
      have := (List.getElem?_eq_some_iff.mp h0).1
      simpa [wsI] using this
    rw [List.getElem?_set_self hl, wsI_get h0]
  · rw [List.getElem?_set_ne hk]
    cases h : CE[k]? with
    | none => simp [wsI, h]
    | some q =>
      rw [wsI_get h, wsI_get h]
      have hne : ¬ (q.1 = r ∧ q.2 = i) := fun e => hk (CE_inj h0 (by rw [h]; exact congrArg some (Prod.ext e.1 e.2)))
      rw [cel_congr (hoff _ _ hne).1 (hoff _ _ hne).2]
theorem wsI_D (hA : Ad ad A) : va_D A (wsI ad cA I L) := by
  have at' : ∀ (k : Nat) (p : Nat × va_E), (wsI ad cA I L)[k]? = some p → ∃ q, CE[k]? = some q ∧ p = (ad q.1 q.2, cel ad cA I L q.1 q.2) := by
    intro k p h
    cases hk : CE[k]? with
    | none => simp [wsI, hk] at h
    | some q =>
      rw [wsI_get hk] at h
      exact ⟨q, rfl, (Option.some.inj h).symm⟩
  refine ⟨fun i j p q hi hj e => ?_, fun k q hk => ?_⟩
  · obtain ⟨a, ha, rfl⟩ := at' i p hi
    obtain ⟨b, hb, rfl⟩ := at' j q hj
    have hab : a = b := hA.1 a (List.mem_of_getElem? ha) b (List.mem_of_getElem? hb) e
    subst hab
    exact CE_inj ha hb
  · obtain ⟨a, ha, rfl⟩ := at' k q hk
    exact hA.2 a (List.mem_of_getElem? ha)
end WsI
/-! the places of a frame -/
def LR (ad : Nat → Nat → Nat) (nL : Nat) (la : Array Slot) (ls : List MV) : Prop := la.size = nL ∧ ls.length = nL ∧ lv_wf la ∧ ∀ (k : Nat) (v : MV), ls[k]? = some v → v ≠ vD → la[k]? = some (.val (upv ad v))
def al (ad : Nat → Nat → Nat) (ls : List MV) : List (Nat × Value) := (List.range ls.length).filterMap (fun k => match ls[k]? with
  | some v => if v = vD then none else some (k, upv ad v)
  | none => none)
theorem al_mem {ad : Nat → Nat → Nat} {ls : List MV} {q : Nat × Value} : q ∈ al ad ls ↔ ∃ v, ls[q.1]? = some v ∧ v ≠ vD ∧ q.2 = upv ad v := by
  unfold al
  rw [List.mem_filterMap]
  constructor
  · rintro ⟨k, hk, h⟩
    split at h
    · rename_i v hv
      by_cases hd : v = vD
      · rw [if_pos hd] at h; cases h
      · rw [if_neg hd] at h; cases h; exact ⟨v, hv, hd, rfl⟩
    · cases h
  · rintro ⟨v, hv, hd, e⟩
    refine ⟨q.1, List.mem_range.mpr (List.getElem?_eq_some_iff.mp hv).1, ?_⟩
    rw [hv]
    simp only [if_neg hd]
    rw [← e]
theorem LR_has {ad : Nat → Nat → Nat} {nL : Nat} {la : Array Slot} {ls : List MV} (h : LR ad nL la ls) : lv_has la nL (al ad ls) := by
  refine ⟨h.1, h.2.2.1, fun q hq => ?_⟩
  obtain ⟨v, hv, hd, e⟩ := al_mem.mp hq
  rw [e]
  exact h.2.2.2 _ _ hv hd
theorem upv_cat (ad : Nat → Nat → Nat) (v : MV) : (upv ad v).category = mcat v := by
  rcases v with x | x | ⟨r, i⟩ | b
  · rfl
  · rfl
  · rfl
  · cases b <;> rfl
theorem kP_len (ls : List MV) (k : Nat) : (kP ls k).length = ls.length := by
  cases k with
  | zero => rfl
  | succ k =>
    simp only [kP]
    split
    · simp
    · rfl
theorem kP_live {ls : List MV} {k j : Nat} {w : MV} (h : (kP ls k)[j]? = some w) (hw : w ≠ vD) : ls[j]? = some w ∧ ¬ (j + 1 = k ∧ mcat w = 2) := by
  cases k with
  | zero => exact ⟨h, fun q => by omega⟩
  | succ k =>
    simp only [kP] at h
    split at h
    · rename_i x hx
      by_cases hj : k = j
      · subst hj
        rw [List.getElem?_set_self (List.getElem?_eq_some_iff.mp hx).1] at h
        exact absurd (Option.some.inj h).symm hw
      · rw [List.getElem?_set_ne hj] at h
        exact ⟨h, fun q => hj (by omega)⟩
    · rename_i hx
      refine ⟨h, fun q => ?_⟩
      have e : j = k := by omega
      subst e
      rcases w with x | x | x | x
      · exact absurd q.2 (by simp [mcat])
      · exact hx x h
      · exact absurd q.2 (by simp [mcat])
      · exact absurd q.2 (by simp [mcat])
theorem LR_st1 {ad : Nat → Nat → Nat} {nL : Nat} {la' : Array Slot} {ls : List MV} {k : Nat} {v : MV} (hlen : ls.length = nL) (h : lv_has la' nL ((k, upv ad v) :: (al ad ls).filter (fun q => !(q.1 == k) && !(q.1 + 1 == k && q.2.category == 2)))) : LR ad nL la' (s1L ls k v) := by
  refine ⟨h.1, by simp [s1L, kP_len, hlen], h.2.1, fun j w hj hw => ?_⟩
  unfold s1L at hj
  by_cases e : k = j
  · subst e
    have hl : k < (kP ls k).length := by
      have := (List.getElem?_eq_some_iff.mp hj).1
      simpa using this
    rw [List.getElem?_set_self hl] at hj
    cases hj
    exact h.2.2 _ List.mem_cons_self
  · rw [List.getElem?_set_ne e] at hj
    obtain ⟨h1, h2⟩ := kP_live hj hw
    refine h.2.2 (j, upv ad w) (List.mem_cons_of_mem _ (List.mem_filter.mpr ⟨al_mem.mpr ⟨w, h1, hw, rfl⟩, ?_⟩))
    rw [upv_cat]
    simp only [Bool.and_eq_true, Bool.not_eq_true', beq_eq_false_iff_ne, ne_eq, Bool.and_eq_false_iff]
    refine ⟨fun q => e q.symm, ?_⟩
    by_cases q : j + 1 = k
    · exact Or.inr (fun z => h2 ⟨q, z⟩)
    · exact Or.inl q
theorem LR_st2 {ad : Nat → Nat → Nat} {nL : Nat} {la' : Array Slot} {ls : List MV} {k : Nat} {v : MV} (hlen : ls.length = nL) (h : lv_has la' nL ((k, upv ad v) :: (al ad ls).filter (fun q => !(q.1 == k) && (!(q.1 == k + 1) && !(q.1 + 1 == k && q.2.category == 2))))) : LR ad nL la' (s2L ls k v) := by
  refine ⟨h.1, by simp [s2L, kP_len, hlen], h.2.1, fun j w hj hw => ?_⟩
  unfold s2L at hj
  by_cases e2 : k + 1 = j
  · subst e2
    have hl : k + 1 < ((kP ls k).set k v).length := by
      have := (List.getElem?_eq_some_iff.mp hj).1
      simpa using this
    rw [List.getElem?_set_self hl] at hj
    exact absurd (Option.some.inj hj).symm hw
  rw [List.getElem?_set_ne e2] at hj
  by_cases e : k = j
  · subst e
    have hl : k < (kP ls k).length := by
      have := (List.getElem?_eq_some_iff.mp hj).1
      simpa using this
    rw [List.getElem?_set_self hl] at hj
    cases hj
    exact h.2.2 _ List.mem_cons_self
  · rw [List.getElem?_set_ne e] at hj
    obtain ⟨h1, h2⟩ := kP_live hj hw
    refine h.2.2 (j, upv ad w) (List.mem_cons_of_mem _ (List.mem_filter.mpr ⟨al_mem.mpr ⟨w, h1, hw, rfl⟩, ?_⟩))
    rw [upv_cat]
    simp only [Bool.and_eq_true, Bool.not_eq_true', beq_eq_false_iff_ne, ne_eq, Bool.and_eq_false_iff]
    refine ⟨fun q => e q.symm, fun q => e2 q.symm, ?_⟩
    by_cases q : j + 1 = k
    · exact Or.inr (fun z => h2 ⟨q, z⟩)
    · exact Or.inl q
theorem LR_wk {ad : Nat → Nat → Nat} {nL : Nat} {la : Array Slot} {ls ls' : List MV} (h : LR ad nL la ls) (hw : wk ls' ls) : LR ad nL la ls' := by
  have key : ∀ (x y : List MV), wk x y → x.length = y.length ∧ ∀ (k : Nat) (v : MV), x[k]? = some v → v ≠ vD → y[k]? = some v := by
    intro x
    induction x with
    | nil =>
      intro y hy
      cases y with
      | nil => exact ⟨rfl, fun k v h => by simp at h⟩
      | cons b y => exact False.elim hy
    | cons a x ih =>
      intro y hy
      cases y with
      | nil => exact False.elim hy
      | cons b y =>
        obtain ⟨h1, h2⟩ := ih y hy.2
        refine ⟨by simp [h1], fun k v hk hv => ?_⟩
        cases k with
        | zero =>
          simp at hk
          subst hk
          rcases hy.1 with q | q
          · exact absurd q hv
          · simp [q]
        | succ k => simpa using h2 k v (by simpa using hk) hv
  obtain ⟨h1, h2⟩ := key _ _ hw
  exact ⟨h.1, h1.trans h.2.1, h.2.2.1, fun k v hk hv => h.2.2.2 k v (h2 k v hk hv) hv⟩
theorem okl_wk {ls ls' : List MV} (hw : wk ls' ls) (h : okl ls) : okl ls' := by
  induction ls' generalizing ls with
  | nil => intro v hv; simp at hv
  | cons a x ih =>
    cases ls with
    | nil => exact False.elim hw
    | cons b y =>
      intro v hv
      rcases List.mem_cons.mp hv with e | hv
      · rcases hw.1 with q | q
        · rw [e, q]; trivial
        · rw [e, q]; exact h b List.mem_cons_self
      · exact ih hw.2 (fun v hv => h v (List.mem_cons_of_mem _ hv)) v hv
theorem okl_set {ls : List MV} {k : Nat} {v : MV} (h : okl ls) (hv : okv v) : okl (ls.set k v) := by
  intro w hw
  rcases List.mem_or_eq_of_mem_set hw with q | q
  · exact h w q
  · rw [q]; exact hv
theorem okl_kP {ls : List MV} {k : Nat} (h : okl ls) : okl (kP ls k) := by
  cases k with
  | zero => exact h
  | succ k =>
    simp only [kP]
    split
    · exact okl_set h trivial
    · exact h
theorem okl_s1 {ls : List MV} {k : Nat} {v : MV} (h : okl ls) (hv : okv v) : okl (s1L ls k v) := okl_set (okl_kP h) hv
theorem okl_s2 {ls : List MV} {k : Nat} {v : MV} (h : okl ls) (hv : okv v) : okl (s2L ls k v) := okl_set (okl_set (okl_kP h) hv) trivial
theorem okl_c {v : MV} {r : List MV} (hv : okv v) (h : okl r) : okl (v :: r) := List.forall_mem_cons.mpr ⟨hv, h⟩
theorem okl_t {v : MV} {r : List MV} (h : okl (v :: r)) : okl r := fun w hw => h w (List.mem_cons_of_mem _ hw)
theorem okl_h {v : MV} {r : List MV} (h : okl (v :: r)) : okv v := h v List.mem_cons_self
theorem okl_at {ls : List MV} {k : Nat} {v : MV} (h : okl ls) (hk : ls[k]? = some v) : okv v := h v (List.mem_of_getElem? hk)
theorem SK_ck : (SKl.all fun q => decide (q.2.2 < sLen.length)) = true := by decide
theorem SK_lt {q : Nat × Nat × Nat} (h : q ∈ SKl) : q.2.2 < sLen.length := of_decide_eq_true (List.all_eq_true.mp SK_ck q h)
theorem ok_s {a : Nat} (h : a < sLen.length) : okv (vR 4000 a) := by
  show a < cnt 4000
  rw [cnt_s.1]
  exact h
theorem ok_sv {a : Nat} (h : a < sLen.length) : okv (vR 4001 a) := by
  show a < cnt 4001
  rw [cnt_s.2]
  exact h

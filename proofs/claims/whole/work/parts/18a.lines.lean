/-! a text's lines: what they tell -/
abbrev LO (α : Type) : Type := Sum (Nat × Nat) α
def tw {α : Type} (B : Nat → Nat) (n p k : Nat) (r : Nat → LO α) : LO α := if (tkn B n p).1 = k then r (tkn B n p).2.2.1 else Sum.inl (fkN (tkn B n p).1 2, (tkn B n p).2.1)
def tn {α : Type} (B : Nat → Nat) (n p a b : Nat) (r : Nat → Nat → LO α) : LO α := if (tkn B n p).1 = 23 then (if a ≤ (tkn B n p).2.2.2 ∧ (tkn B n p).2.2.2 < b then r (tkn B n p).2.2.1 (tkn B n p).2.2.2 else Sum.inl (3, (tkn B n p).2.1)) else Sum.inl (fkN (tkn B n p).1 2, (tkn B n p).2.1)
def bnL {α β : Type} (o : LO α) (k : α → LO β) : LO β := match o with
  | Sum.inl x => Sum.inl x
  | Sum.inr y => k y
theorem tw_cs {α : Type} {B : Nat → Nat} {n p k : Nat} {r : Nat → LO α} {o : LO α} (h : tw B n p k r = o) : ((tkn B n p).1 = k ∧ r (tkn B n p).2.2.1 = o) ∨ ((tkn B n p).1 ≠ k ∧ o = Sum.inl (fkN (tkn B n p).1 2, (tkn B n p).2.1)) := by
  unfold tw at h
  by_cases e : (tkn B n p).1 = k
  · rw [if_pos e] at h; exact Or.inl ⟨e, h⟩
  · rw [if_neg e] at h; exact Or.inr ⟨e, h.symm⟩
theorem tn_cs {α : Type} {B : Nat → Nat} {n p a b : Nat} {r : Nat → Nat → LO α} {o : LO α} (h : tn B n p a b r = o) : ((tkn B n p).1 = 23 ∧ a ≤ (tkn B n p).2.2.2 ∧ (tkn B n p).2.2.2 < b ∧ r (tkn B n p).2.2.1 (tkn B n p).2.2.2 = o) ∨ ((tkn B n p).1 = 23 ∧ ¬ (a ≤ (tkn B n p).2.2.2 ∧ (tkn B n p).2.2.2 < b) ∧ o = Sum.inl (3, (tkn B n p).2.1)) ∨ ((tkn B n p).1 ≠ 23 ∧ o = Sum.inl (fkN (tkn B n p).1 2, (tkn B n p).2.1)) := by
  unfold tn at h
  by_cases e : (tkn B n p).1 = 23
  · rw [if_pos e] at h
    by_cases q : a ≤ (tkn B n p).2.2.2 ∧ (tkn B n p).2.2.2 < b
    · rw [if_pos q] at h; exact Or.inl ⟨e, q.1, q.2, h⟩
    · rw [if_neg q] at h; exact Or.inr (Or.inl ⟨e, q, h.symm⟩)
  · rw [if_neg e] at h; exact Or.inr (Or.inr ⟨e, h.symm⟩)
theorem bnL_cs {α β : Type} {o : LO α} {k : α → LO β} {r : LO β} (h : bnL o k = r) : (∃ x, o = Sum.inl x ∧ r = Sum.inl x) ∨ ∃ y, o = Sum.inr y ∧ k y = r := by
  cases o with
  | inl x => exact Or.inl ⟨x, rfl, h.symm⟩
  | inr y => exact Or.inr ⟨y, rfl, h⟩
/-! the road that grows -/
def R0 : RD := (0, 0, fun _ => 0, fun _ => 0, fun _ => 0, fun _ => 0, fun _ => 0, fun _ => 0, 1, 0, none, none)
def setP (R : RD) (v : Nat) : RD := (rC R, rW R, rf R, rt R, rl R, rh R, rp R, rk R, nI v, rN R, rT R, rU R)
def addN (R : RD) : RD := (rC R, rW R, rf R, rt R, rl R, rh R, rp R, rk R, rP R, rN R + 1, rT R, rU R)
def addC (R : RD) (h q : Nat) : RD := (rC R + 1, rW R, rf R, rt R, rl R, fun c => if c = rC R then nI h else rh R c, fun c => if c = rC R then nI q else rp R c, rk R, rP R, rN R, rT R, rU R)
def addW (R : RD) (f t k l : Nat) : RD := (rC R, rW R + 1, fun w => if w = rW R then f else rf R w, fun w => if w = rW R then t else rt R w, fun w => if w = rW R then l else rl R w, rh R, rp R, fun w => if w = rW R then nI k else rk R w, rP R, rN R, rT R, rU R)
def setL (R : RD) (rd : Nat) (g : DN) : RD := if rd = 0 then (rC R, rW R, rf R, rt R, rl R, rh R, rp R, rk R, rP R, rN R, some g, rU R) else (rC R, rW R, rf R, rt R, rl R, rh R, rp R, rk R, rP R, rN R, rT R, some g)
theorem WF_0 : WF R0 := ⟨by decide, by decide, fun w hw => absurd hw (Nat.not_lt_zero _), ⟨by decide, by decide⟩, fun c hc => absurd hc (Nat.not_lt_zero _), fun w hw => absurd hw (Nat.not_lt_zero _), fun f hf => by have hf : (none : Option DN) = some f := hf; exact absurd hf (by simp), fun f hf => by have hf : (none : Option DN) = some f := hf; exact absurd hf (by simp)⟩
theorem WF_P {R : RD} {v : Nat} (h : WF R) (h1 : 1 ≤ v) (h2 : v < 100) : WF (setP R v) := ⟨h.1, h.2.1, h.2.2.1, rg_n (by omega) (by omega) (by omega), h.2.2.2.2⟩
theorem WF_N {R : RD} (h : WF R) : WF (addN R) := h
theorem WF_C {R : RD} {a q : Nat} (h : WF R) (hc : rC R < 6) (h1 : a < 100) (h2 : q < 100) : WF (addC R a q) := by
  refine ⟨by show rC R + 1 ≤ 6; omega, h.2.1, fun w hw => ?_, h.2.2.2.1, fun c hc' => ?_, h.2.2.2.2.2⟩
  · have := h.2.2.1 w hw
    exact ⟨by show rf R w < rC R + 1; omega, by show rt R w < rC R + 1; omega, this.2.2⟩
  · have hc' : c < rC R + 1 := hc'
    show rg (if c = rC R then nI a else rh R c) 0 99 ∧ rg (if c = rC R then nI q else rp R c) 0 99
    by_cases e : c = rC R
    · rw [if_pos e, if_pos e]; exact ⟨rg_n (by omega) (by omega) (by omega), rg_n (by omega) (by omega) (by omega)⟩
    · rw [if_neg e, if_neg e]; exact h.2.2.2.2.1 c (by omega)
theorem WF_W {R : RD} {f t k l : Nat} (h : WF R) (hw : rW R < 10) (h1 : f < rC R) (h2 : t < rC R) (h3 : k < 100) (h4 : l < 3) (h5 : (if f < t then 0 else 1) ≤ l) : WF (addW R f t k l) := by
  refine ⟨h.1, by show rW R + 1 ≤ 10; omega, fun w hw' => ?_, h.2.2.2.1, h.2.2.2.2.1, fun w hw' => ?_, h.2.2.2.2.2.2⟩
  · have hw' : w < rW R + 1 := hw'
    show (if w = rW R then f else rf R w) < rC R ∧ (if w = rW R then t else rt R w) < rC R ∧ (if w = rW R then l else rl R w) ≤ 2 ∧ ((if w = rW R then l else rl R w) = 0 → (if w = rW R then f else rf R w) < (if w = rW R then t else rt R w))
    by_cases e : w = rW R
    · rw [if_pos e, if_pos e, if_pos e]
      refine ⟨h1, h2, by omega, fun z => ?_⟩
      by_cases y : f < t
      · exact y
      · rw [if_neg y] at h5; omega
    · rw [if_neg e, if_neg e, if_neg e]; exact h.2.2.1 w (by omega)
  · have hw' : w < rW R + 1 := hw'
    show rg (if w = rW R then nI k else rk R w) 0 99
    by_cases e : w = rW R
    · rw [if_pos e]; exact rg_n (by omega) (by omega) (by omega)
    · rw [if_neg e]; exact h.2.2.2.2.2.1 w (by omega)
theorem WF_L {R : RD} {rd : Nat} {c : List Nat} {g : DN} (h : WF R) (hg : cOk rd (if rd = 0 then 2 else 5) c g) : WF (setL R rd g) := by
  unfold setL
  by_cases e : rd = 0
  · rw [if_pos e]
    rw [if_pos e] at hg
    refine ⟨h.1, h.2.1, h.2.2.1, h.2.2.2.1, h.2.2.2.2.1, h.2.2.2.2.2.1, h.2.2.2.2.2.2.1, fun f hf nm hb => ?_⟩
    have hf : some g = some f := hf
    injection hf with hf
    rw [← hf]
    exact hg.2 nm hb
  · rw [if_neg e]
    rw [if_neg e] at hg
    refine ⟨h.1, h.2.1, h.2.2.1, h.2.2.2.1, h.2.2.2.2.1, h.2.2.2.2.2.1, fun f hf nm hb => ?_, h.2.2.2.2.2.2.2⟩
    have hf : some g = some f := hf
    injection hf with hf
    rw [← hf]
    exact hg.2 nm hb
/-! the lines -/
section Lines
variable (B : Nat → Nat) (n : Nat)
def lawR (rd p : Nat) : PR := (prs B n rd 20000 (if rd = 0 then 2 else 5) 0 p [] d0).getD (Sum.inl (0, 0))
def lawO (rd : Nat) (R : RD) (p : Nat) : LO (Nat × RD) := tw B n p (7 + 2 * rd) (fun p1 => tw B n p1 31 (fun p2 => bnL (lawR B n rd p2) (fun x => Sum.inr (x.1, setL R rd x.2.2))))
def coachO (R : RD) (p : Nat) : LO (Nat × RD) := if rC R < 6 then tw B n p 3 (fun p1 => tw B n p1 4 (fun p2 => tn B n p2 0 100 (fun p3 a => tw B n p3 5 (fun p4 => tn B n p4 0 100 (fun p5 q => Sum.inr (p5, addC R a q)))))) else Sum.inl (fkN (tkn B n p).1 4, (tkn B n p).2.1)
def waitO (R : RD) (p : Nat) : LO (Nat × RD) := if rW R < 10 then tw B n p 6 (fun p1 => tn B n p1 0 (rC R) (fun p2 f => tn B n p2 0 (rC R) (fun p3 t => tw B n p3 7 (fun p4 => tn B n p4 0 100 (fun p5 k => tw B n p5 8 (fun p6 => tn B n p6 (if f < t then 0 else 1) 3 (fun p7 l => Sum.inr (p7, addW R f t k l)))))))) else Sum.inl (fkN (tkn B n p).1 4, (tkn B n p).2.1)
def lineO (R : RD) (p : Nat) : LO (Nat × RD) := if (tkn B n p).1 = 3 then coachO B n R p else if (tkn B n p).1 = 6 then waitO B n R p else if (tkn B n p).1 = 7 then lawO B n 0 R p else if (tkn B n p).1 = 9 then lawO B n 1 R p else Sum.inl (fkN (tkn B n p).1 2, (tkn B n p).2.1)
def clsO (R : RD) (p : Nat) : LO (Nat × RD) := tw B n p 30 (fun p1 => Sum.inr (p1, addN R))
def lpsO : Nat → RD → Nat → LO RD
  | 0, R, _ => Sum.inr R
  | f + 1, R, p => if (tkn B n p).1 = 24 then Sum.inr R else bnL (lineO B n R p) (fun x => bnL (clsO B n x.2 x.1) (fun y => lpsO f y.2 y.1))
def roadO : LO (Nat × RD) := tw B n 0 0 (fun p1 => tw B n p1 1 (fun p2 => tn B n p2 1 100 (fun p3 v => tw B n p3 2 (fun p4 => tn B n p4 0 10 (fun p5 u => bnL (clsO B n (setP R0 v) p5) (fun y => bnL (lpsO B n 901 y.2 y.1) (fun R => Sum.inr (u, R))))))))
end Lines
theorem lawR_s {B : Nat → Nat} {n rd p : Nat} (hp : p ≤ n) (hn : n ≤ 900) : prs B n rd 20000 (if rd = 0 then 2 else 5) 0 p [] d0 = some (lawR B n rd p) := by
  have h5 : (if rd = 0 then 2 else 5) ≤ 5 := by split <;> omega
  obtain ⟨r, hr⟩ := prs_tot (B := B) (n := n) (rd := rd) 20000 (if rd = 0 then 2 else 5) 0 p [] d0 (by omega) hp (fun _ => rfl) (fun z => by omega) (by unfold mu; split <;> simp <;> omega)
  unfold lawR
  rw [hr]
  rfl
/-! what the program's reader does, by such an outcome -/
section TakeP
variable {d : Nat} {J : MI} {L : ML} {B : Nat → Nat} {n p : Nat} {α : Type} {o : LO α}
theorem twP {j : Nat} {r : Nat → LO α} {K : MI → ML → Prop} (hd : 7 ≤ d) (hP : PsC J B n p) (hj : j < 21) (h : tw B n p j r = o) (h1 : ∀ J', PsC J' B n (tkn B n p).2.2.1 → frR J J' → p < (tkn B n p).2.2.1 → r (tkn B n p).2.2.1 = o → K J' L) (h0 : ∀ J' x, FtC J' x.1 x.2 → frR J J' → o = Sum.inl x → K J' L) : CV d m_Rd_takeWord [vR 192 0, vR 4000 (kwC j)] J L K := by
  have hf := tk_f (B := B) hP.2.2.1
  have hf1 := hf.1
  refine c_Rd_takeWord hd hP hj (fun e I' hP' hF' => ?_) (fun e I' hF' hR => ?_)
  · rcases tw_cs h with ⟨_, hk⟩ | ⟨hx, _⟩
    · have hlt := hf.2.2.2.2.2.1 (by omega)
      exact h1 I' hP' hF' (by omega) hk
    · exact absurd e hx
  · rcases tw_cs h with ⟨hx, _⟩ | ⟨_, hr⟩
    · exact absurd hx e
    · exact h0 I' _ hF' hR hr
theorem tsP {j : Nat} {x : Int32} {r : Nat → LO α} {K : MI → ML → Prop} (hd : 7 ≤ d) (hP : PsC J B n p) (hj : j < 12) (hx : x = sBy 0 j) (h : tw B n p (30 + j) r = o) (h1 : ∀ J', PsC J' B n (tkn B n p).2.2.1 → frR J J' → p < (tkn B n p).2.2.1 → r (tkn B n p).2.2.1 = o → K J' L) (h0 : ∀ J' x, FtC J' x.1 x.2 → frR J J' → o = Sum.inl x → K J' L) : CV d m_Rd_takeSign [vR 192 0, vI x] J L K := by
  have hf := tk_f (B := B) hP.2.2.1
  have hf1 := hf.1
  refine c_Rd_takeSign hd hP hj hx (fun e I' hP' hF' => ?_) (fun e I' hF' hR => ?_)
  · rcases tw_cs h with ⟨_, hk⟩ | ⟨hx, _⟩
    · have hlt := hf.2.2.2.2.2.1 (by omega)
      exact h1 I' hP' hF' (by omega) hk
    · exact absurd e hx
  · rcases tw_cs h with ⟨hx, _⟩ | ⟨_, hr⟩
    · exact absurd hx e
    · exact h0 I' _ hF' hR hr
theorem tnP {a b : Nat} {y : Int32} {r : Nat → Nat → LO α} {K : Int32 → MI → ML → Prop} (hd : 7 ≤ d) (hP : PsC J B n p) (ha : a ≤ 999) (hy : ∀ v, v ≤ 999 → (nI v ≤ y ↔ v < b)) (h : tn B n p a b r = o) (h1 : ∀ J' v, PsC J' B n (tkn B n p).2.2.1 → frR J J' → p < (tkn B n p).2.2.1 → a ≤ v → v < b → r (tkn B n p).2.2.1 v = o → K (nI v) J' L) (h0 : ∀ z J' x, FtC J' x.1 x.2 → frR J J' → o = Sum.inl x → K z J' L) : CI d m_Rd_takeNumber [vR 192 0, vI (nI a), vI y] J L K := by
  have hf := tk_f (B := B) hP.2.2.1
  have hf1 := hf.1
  have hv := hf.2.2.2.2.2.2.2.1
  refine c_Rd_takeNumber hd hP ha (fun e q1 q2 I' hP' hF' => ?_) (fun e q z I' hF' hR => ?_) (fun e z I' hF' hR => ?_)
  · have hlt := hf.2.2.2.2.2.1 (by omega)
    have q2 := (hy _ (hv e)).mp q2
    rcases tn_cs h with ⟨_, _, _, hk⟩ | ⟨_, hx, _⟩ | ⟨hx, _⟩
    · exact h1 I' _ hP' hF' (by omega) q1 q2 hk
    · exact absurd ⟨q1, q2⟩ hx
    · exact absurd e hx
  · rcases tn_cs h with ⟨_, q1, q2, _⟩ | ⟨_, _, hr⟩ | ⟨hx, _⟩
    · exact absurd ⟨q1, (hy _ (hv e)).mpr q2⟩ q
    · exact h0 z I' _ hF' hR hr
    · exact absurd e hx
  · rcases tn_cs h with ⟨hx, _⟩ | ⟨hx, _⟩ | ⟨_, hr⟩
    · exact absurd hx e
    · exact absurd hx e
    · exact h0 z I' _ hF' hR hr
theorem hy_c {b : Nat} (hb : b ≤ 999) : ∀ v, v ≤ 999 → (nI v ≤ nI b ↔ v < b + 1) := fun v hv => by
  constructor
  · intro q
    rcases Nat.lt_or_ge v (b + 1) with z | z
    · exact z
    · exact absurd q (Int32.not_le.mpr (nI_lt (a := b) (b := v) (by omega) (by omega)))
  · intro q
    exact nI_le (by omega) (by omega)
theorem hy_1 {c : Nat} (hc : c ≤ 999) : ∀ v, v ≤ 999 → (nI v ≤ nI c - 1 ↔ v < c) := fun v hv => by
  rcases Nat.eq_zero_or_pos c with z | z
  · rw [z]
    constructor
    · intro q
      have q := Int32.le_iff_toInt_le.mp q
      rw [nI_toInt (by omega)] at q
      have e1 : (nI 0 - 1 : Int32).toInt = -1 := by decide
      omega
    · intro q; omega
  · have e : nI c - 1 = nI (c - 1) := by
      have := nI_pred (c - 1)
      rw [show c - 1 + 1 = c by omega] at this
      exact this
    rw [e, hy_c (by omega) v hv]
    omega
end TakeP

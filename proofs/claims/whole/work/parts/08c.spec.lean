/-! a round, as numbers -/
theorem rg_add {x y : Int32} {a b c e : Int} (h1 : rg x a b) (h2 : rg y c e) (h3 : -2147483648 ≤ a + c) (h4 : b + e < 2147483648) : rg (x + y) (a + c) (b + e) := by
  obtain ⟨a1, a2⟩ := h1
  obtain ⟨b1, b2⟩ := h2
  have := Jvm.Kit.i32_add (x := x) (y := y) (by omega) (by omega)
  exact ⟨by omega, by omega⟩
theorem rg_sub {x y : Int32} {a b c e : Int} (h1 : rg x a b) (h2 : rg y c e) (h3 : -2147483648 ≤ a - e) (h4 : b - c < 2147483648) : rg (x - y) (a - e) (b - c) := by
  obtain ⟨a1, a2⟩ := h1
  obtain ⟨b1, b2⟩ := h2
  have := Jvm.Kit.i32_sub (x := x) (y := y) (by omega) (by omega)
  exact ⟨by omega, by omega⟩
theorem rg_mx {x y : Int32} {a b c e : Int} (h1 : rg x a b) (h2 : rg y c e) : rg (mx x y) (max a c) (max b e) := by
  unfold mx rg at *
  by_cases h : x < y
  · rw [if_pos h]
    have := Int32.lt_iff_toInt_lt.mp h
    omega
  · rw [if_neg h]
    have := Int32.le_iff_toInt_le.mp (Int32.not_lt.mp h)
    omega
theorem rg_mn {x y : Int32} {a b c e : Int} (h1 : rg x a b) (h2 : rg y c e) : rg (mn x y) (min a c) (min b e) := by
  unfold mn rg at *
  by_cases h : y < x
  · rw [if_pos h]
    have := Int32.lt_iff_toInt_lt.mp h
    omega
  · rw [if_neg h]
    have := Int32.le_iff_toInt_le.mp (Int32.not_lt.mp h)
    omega
theorem rg_lit {n : Nat} {a b : Int} (h1 : a ≤ (n : Int)) (h2 : (n : Int) ≤ b) (hn : n < 2 ^ 31) : rg (OfNat.ofNat n) a b := rg_n h1 h2 hn
theorem rg_nat {x : Int32} {b : Nat} (h : rg x 0 b) : ∃ n : Nat, n ≤ b ∧ x = nI n := by
  obtain ⟨n, h1, h2⟩ := nI_of (x := x) (fun q => by have := Int32.lt_iff_toInt_lt.mp q; have h0 : (0 : Int32).toInt = 0 := rfl; have := h.1; omega)
  refine ⟨n, ?_, h2⟩
  have := h.2
  rw [h2, nI_toInt h1] at this
  omega
/-- whether a wait is kept by which one would be so late -/
def kvO (R : RD) (mud : Int32) (w : Nat) (x : Int32) : Int32 := match rU R with
  | none => 1
  | some f => f (nmO R w mud x)
def alO (R : RD) (mud : Int32) (w : Nat) (fr la ea : Nat → Int32) : Int32 := gpO R mud w + (if rl R w = 0 then fr (rf R w) else if rl R w = 1 then la (rf R w) else ea (rf R w))
/-- the waits of a coach -/
def wts (R : RD) (c : Nat) : List Nat := (List.range (rW R)).filter (fun w => decide (rt R w = c))
def ordL (R : RD) : List Nat := (List.range (rC R)).flatMap (wts R)
def bst (R : RD) (mud out : Int32) (fr la ea : Nat → Int32) (b : Int32 × Int32) (w : Nat) : Int32 × Int32 :=
  if b.1 < alO R mud w fr la ea ∧ ¬ nI w = out ∧ kvO R mud w (alO R mud w fr la ea) = 1 then (alO R mud w fr la ea, nI w) else b
def best (R : RD) (mud out : Int32) (fr la ea : Nat → Int32) (c : Nat) : Int32 × Int32 := (wts R c).foldl (bst R mud out fr la ea) (0, -1)
/-- how late the first n are -/
def fsh (R : RD) (s : SA) (out : Int32) : Nat → Nat → Int32
  | 0 => fun _ => 0
  | n + 1 => fun c => if c = n then mn 100000 ((best R s.2.2.2.1 out (fsh R s out n) s.1 s.2.1 n).1 + s.2.2.1 n) else fsh R s out n c
def frO (R : RD) (s : SA) (out : Int32) : Nat → Int32 := fun c => if c < rC R then fsh R s out (rC R) c else 0
/-- behind a round -/
def trn (R : RD) (s : SA) (out : Int32) : SA := pasS s (frO R s out)
def csO (R : RD) (s : SA) (out : Int32) (c : Nat) : Int32 := (best R s.2.2.2.1 out (fsh R s out c) s.1 s.2.1 c).2
theorem fsh_lo {R : RD} {s : SA} {out : Int32} : ∀ (n c : Nat), c < n → fsh R s out n c = fsh R s out (c + 1) c := by
  intro n
  induction n with
  | zero => intro c h; omega
  | succ n ih =>
    intro c h
    by_cases e : c = n
    · rw [e]
    · simp only [fsh, if_neg e]
      rw [ih c (by omega)]
      simp [fsh]
theorem fsh_at {R : RD} {s : SA} {out : Int32} (c : Nat) : fsh R s out (c + 1) c = mn 100000 ((best R s.2.2.2.1 out (fsh R s out c) s.1 s.2.1 c).1 + s.2.2.1 c) := by simp [fsh]
/-! the numbers stay within bounds -/
def SR (R : RD) (s : SA) (h : Nat) : Prop := (∀ c, c < rC R → rg (s.1 c) 0 100000 ∧ rg (s.2.1 c) 0 100000 ∧ rg (s.2.2.1 c) 0 h) ∧ ∃ m : Nat, m ≤ 9 ∧ s.2.2.2.1 = nI m
theorem tmO_rg {R : RD} (hR : WF R) {w m : Nat} (hw : w < rW R) (hm : m ≤ 9) : rg (tmO R (nI m) w) 0 999 := by
  unfold tmO
  cases hT : rT R with
  | none => exact (rg_add (hR.2.2.2.2.2.1 w hw) (rg_n (a := 0) (b := 9) (by omega) (by omega) (by omega)) (by omega) (by omega)).mono (by omega) (by omega)
  | some f =>
    have h1 := hR.2.2.2.2.2.2.2 f hT _ (Bd_nm hR hw hm ((hR.2.2.2.2.2.1 w hw).mono (by omega) (by omega)))
    have h2 := rg_mn (x := 999) (rg_lit (n := 999) (a := 999) (b := 999) (by omega) (by omega) (by omega)) h1
    have h3 := rg_mx (x := 0) (rg_lit (n := 0) (a := 0) (b := 0) (by omega) (by omega) (by omega)) h2
    exact h3.mono (by omega) (by omega)
theorem gpO_rg {R : RD} (hR : WF R) {w m : Nat} (hw : w < rW R) (hm : m ≤ 9) : rg (gpO R (nI m) w) (-400) 1200 := by
  obtain ⟨a1, a2, a3, a4⟩ := hR.2.2.1 w hw
  have h1 := rg_sub (hR.2.2.2.2.1 _ a1).1 (hR.2.2.2.2.1 _ a2).1 (by omega) (by omega)
  have h2 := rg_add h1 (tmO_rg hR hw hm) (by omega) (by omega)
  have hP := hR.2.2.2.1
  have h3 : rg (nI (rl R w) * rP R) 0 198 := by
    have e := Jvm.Kit.i32_mul (x := nI (rl R w)) (y := rP R)
    rw [nI_toInt (by omega)] at e
    unfold rg at hP ⊢
    have hl : rl R w = 0 ∨ rl R w = 1 ∨ rl R w = 2 := by omega
    rcases hl with q | q | q
    · rw [q] at e ⊢; have := e (by omega) (by omega); omega
    · rw [q] at e ⊢; have := e (by omega) (by omega); omega
    · rw [q] at e ⊢; have := e (by omega) (by omega); omega
  exact (rg_sub h2 h3 (by omega) (by omega)).mono (by omega) (by omega)
theorem alO_rg {R : RD} (hR : WF R) {w m : Nat} {fr la ea : Nat → Int32} (hw : w < rW R) (hm : m ≤ 9) (h0 : rl R w = 0 → rg (fr (rf R w)) 0 100000) (h1 : rg (la (rf R w)) 0 100000) (h2 : rg (ea (rf R w)) 0 100000) : rg (alO R (nI m) w fr la ea) (-400) 101200 := by
  unfold alO
  have hg := gpO_rg hR hw hm
  by_cases q : rl R w = 0
  · rw [if_pos q]; exact (rg_add hg (h0 q) (by omega) (by omega)).mono (by omega) (by omega)
  · rw [if_neg q]
    by_cases q1 : rl R w = 1
    · rw [if_pos q1]; exact (rg_add hg h1 (by omega) (by omega)).mono (by omega) (by omega)
    · rw [if_neg q1]; exact (rg_add hg h2 (by omega) (by omega)).mono (by omega) (by omega)
theorem wts_mem {R : RD} {c w : Nat} : w ∈ wts R c ↔ w < rW R ∧ rt R w = c := by simp [wts]
theorem best_rg {R : RD} (hR : WF R) {m c : Nat} {out : Int32} {fr la ea : Nat → Int32} (hm : m ≤ 9) (h0 : ∀ k, k < c → rg (fr k) 0 100000) (h1 : ∀ k, k < rC R → rg (la k) 0 100000) (h2 : ∀ k, k < rC R → rg (ea k) 0 100000) : ∀ (l : List Nat) (b : Int32 × Int32), (∀ w ∈ l, w ∈ wts R c) → rg b.1 0 101200 → rg (l.foldl (bst R (nI m) out fr la ea) b).1 0 101200 := by
  intro l
  induction l with
  | nil => intro b _ hb; exact hb
  | cons w l ih =>
    intro b hl hb
    rw [List.foldl_cons]
    refine ih _ (fun x hx => hl x (List.mem_cons_of_mem _ hx)) ?_
    unfold bst
    by_cases q : b.1 < alO R (nI m) w fr la ea ∧ ¬ nI w = out ∧ kvO R (nI m) w (alO R (nI m) w fr la ea) = 1
    · rw [if_pos q]
      obtain ⟨hw, hc⟩ := wts_mem.mp (hl w List.mem_cons_self)
      obtain ⟨a1, a2, a3, a4⟩ := hR.2.2.1 w hw
      have h := alO_rg hR hw hm (fr := fr) (la := la) (ea := ea) (fun z => h0 _ (by have := a4 z; omega)) (h1 _ a1) (h2 _ a1)
      have := Int32.lt_iff_toInt_lt.mp q.1
      show rg (alO R (nI m) w fr la ea) 0 101200
      unfold rg at h hb ⊢
      omega
    · rw [if_neg q]; exact hb
theorem fsh_rg {R : RD} (hR : WF R) {s : SA} {out : Int32} {hb : Nat} (hh : hb ≤ 1000) (hs : SR R s hb) : ∀ (n : Nat), n ≤ rC R → ∀ c, c < n → rg (fsh R s out n c) 0 100000 := by
  obtain ⟨hs, m, hm, em⟩ := hs
  intro n
  induction n with
  | zero => intro _ c h; omega
  | succ n ih =>
    intro hn c hc
    by_cases e : c = n
    · subst e
      rw [fsh_at, em]
      have hbest := best_rg hR (out := out) (c := c) (fr := fsh R s out c) (la := s.1) (ea := s.2.1) hm (ih (by omega)) (fun k hk => (hs k hk).1) (fun k hk => (hs k hk).2.1) (wts R c) (0, -1) (fun _ h => h) (rg_lit (n := 0) (by omega) (by omega) (by omega))
      have hadd := rg_add hbest (hs c (by omega)).2.2 (by omega) (by omega)
      have := rg_mn (x := 100000) (rg_lit (n := 100000) (a := 100000) (b := 100000) (by omega) (by omega) (by omega)) hadd
      exact this.mono (by omega) (by omega)
    · simp only [fsh, if_neg e]
      exact ih (by omega) c (by omega)
theorem trn_SR {R : RD} (hR : WF R) {s : SA} {out : Int32} {hb : Nat} (hh : hb ≤ 1000) (hs : SR R s hb) : SR R (trn R s out) 0 := by
  refine ⟨fun c hc => ⟨?_, (hs.1 c hc).1, rg_lit (n := 0) (by omega) (by omega) (by omega)⟩, hs.2⟩
  show rg (frO R s out c) 0 100000
  unfold frO
  rw [if_pos hc]
  exact fsh_rg hR hh hs _ (Nat.le_refl _) c hc
/-! the waits in the coaches' order -/
theorem ind_sum {t : Nat} : ∀ (C : Nat), ((List.range C).map (fun c => if t = c then 1 else 0)).sum = if t < C then 1 else 0 := by
  intro C
  induction C with
  | zero => rfl
  | succ C ih =>
    rw [List.range_succ, List.map_append, List.sum_append, ih]
    simp only [List.map_cons, List.map_nil, List.sum_cons, List.sum_nil]
    by_cases h1 : t < C
    · have : ¬ t = C := by omega
      simp [h1, this]; omega
    · by_cases h2 : t = C
      · simp [h2]
      · simp [h1, h2]; omega
theorem sum_add {α : Type} (f g : α → Nat) : ∀ (l : List α), (l.map (fun c => f c + g c)).sum = (l.map f).sum + (l.map g).sum := by
  intro l
  induction l with
  | nil => rfl
  | cons a l ih => simp only [List.map_cons, List.sum_cons, ih]; omega
theorem cnt_flat (t : Nat → Nat) (C : Nat) : ∀ (l : List Nat), (∀ w ∈ l, t w < C) → ((List.range C).flatMap (fun c => l.filter (fun w => decide (t w = c)))).length = l.length := by
  intro l
  induction l with
  | nil =>
    intro _
    induction C with
    | zero => rfl
    | succ C ih => rw [List.range_succ, List.flatMap_append, List.length_append, ih (fun w hw => by simp at hw)]; rfl
  | cons w l ih =>
    intro h
    have ih := ih (fun x hx => h x (List.mem_cons_of_mem _ hx))
    rw [List.length_flatMap] at ih ⊢
    have e : (List.range C).map (fun c => ((w :: l).filter (fun w => decide (t w = c))).length) = (List.range C).map (fun c => (if t w = c then 1 else 0) + (l.filter (fun w => decide (t w = c))).length) := by
      apply List.map_congr_left
      intro c _
      by_cases q : t w = c
      · simp [List.filter_cons, q]; omega
      · simp [List.filter_cons, q]
    rw [e, sum_add, ih, ind_sum, if_pos (h w List.mem_cons_self)]
    simp; omega
theorem ordL_len {R : RD} (hR : WF R) : (ordL R).length = rW R := by
  have := cnt_flat (rt R) (rC R) (List.range (rW R)) (fun w hw => (hR.2.2.1 w (List.mem_range.mp hw)).2.1)
  simpa [ordL, wts] using this
theorem ordL_mem {R : RD} {w : Nat} (h : w ∈ ordL R) : w < rW R := by
  obtain ⟨c, _, hw⟩ := List.mem_flatMap.mp h
  exact (wts_mem.mp hw).1

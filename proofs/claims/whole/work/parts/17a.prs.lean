/-! a law, read: what comes of it -/
abbrev PR : Type := Sum (Nat × Nat) (Nat × List Nat × DN)
abbrev PF : Type := Nat → Nat → Nat → List Nat → DN → Option PR
def bnd (o : Option PR) (k : Nat → List Nat → DN → Option PR) : Option PR := match o with
  | none => none
  | some (Sum.inl x) => some (Sum.inl x)
  | some (Sum.inr x) => k x.1 x.2.1 x.2.2
def flt (B : Nat → Nat) (n p w : Nat) : Option PR := some (Sum.inl (fkN (tkn B n p).1 w, (tkn B n p).2.1))
def exq (B : Nat → Nat) (n p k : Nat) (r : Nat → Option PR) : Option PR := if (tkn B n p).1 = k then r (tkn B n p).2.2.1 else flt B n p 2
def opn (B : Nat → Nat) (n deep p : Nat) (r : Nat → Option PR) : Option PR := if deep < 6 then r (tkn B n p).2.2.1 else flt B n p 4
/-- a name: its word (reference), its place (program) -/
def nmW (rd k : Nat) : Option (Nat × Nat) := if k = 14 then some (0, 0) else if k = 15 then some (1, 1) else if k = 2 then some (2, 2) else if k = 16 ∧ rd = 0 then some (3, 3) else if k = 17 ∧ rd = 1 then some (4, 3) else if k = 5 ∧ rd = 1 then some (5, 4) else none
def d0 : DN := fun _ => 0
def lop (B : Nat → Nat) (n : Nat) (F : PF) (self sub tk cd o deep p : Nat) (ac : List Nat) (ag : DN) : Option PR := if (tkn B n p).1 = tk then bnd (F sub deep (tkn B n p).2.2.1 [] d0) (fun p2 c g => F self deep p2 (ac ++ c ++ [cd]) (fun nm => of2 o (ag nm) (g nm))) else some (Sum.inr (p, ac, ag))
def cmq (F : PF) (cd o deep e : Nat) (c : List Nat) (g : DN) : Option PR := bnd (F 2 deep e [] d0) (fun p2 c2 g2 => some (Sum.inr (p2, c ++ c2 ++ [cd], fun nm => of2 o (g nm) (g2 nm))))
def bAt (B : Nat → Nat) (n rd : Nat) (F : PF) (deep p : Nat) : Option PR :=
  if (tkn B n p).1 = 23 then some (Sum.inr ((tkn B n p).2.2.1, [(tkn B n p).2.2.2], fun _ => nI (tkn B n p).2.2.2)) else match nmW rd (tkn B n p).1 with
    | some q => some (Sum.inr ((tkn B n p).2.2.1, [1000 + q.1], fun nm => nm q.2))
    | none => if (tkn B n p).1 = 35 then opn B n deep p (fun e => bnd (F 2 (deep + 1) e [] d0) (fun p1 c g => exq B n p1 36 (fun p2 => some (Sum.inr (p2, c, g))))) else if (tkn B n p).1 = 10 then opn B n deep p (fun e => bnd (F 5 (deep + 1) e [] d0) (fun p1 c1 g1 => exq B n p1 11 (fun p2 => bnd (F 2 (deep + 1) p2 [] d0) (fun p3 c2 g2 => exq B n p3 12 (fun p4 => bnd (F 2 (deep + 1) p4 [] d0) (fun p5 c3 g3 => exq B n p5 13 (fun p6 => some (Sum.inr (p6, c1 ++ c2 ++ c3 ++ [3009], fun nm => if g1 nm = 0 then g3 nm else g2 nm))))))))) else flt B n p 2
def bUn (B : Nat → Nat) (n : Nat) (F : PF) (deep p : Nat) : Option PR :=
  if (tkn B n p).1 = 20 then opn B n deep p (fun e => bnd (F 3 (deep + 1) e [] d0) (fun p1 c g => some (Sum.inr (p1, c ++ [3006], fun nm => 1 - g nm)))) else if (tkn B n p).1 = 37 then opn B n deep p (fun e => bnd (F 5 (deep + 1) e [] d0) (fun p1 c g => exq B n p1 38 (fun p2 => some (Sum.inr (p2, c, g))))) else bnd (F 2 deep p [] d0) (fun p1 c g => if (tkn B n p1).1 = 39 then cmq F 3003 5 deep (tkn B n p1).2.2.1 c g else if (tkn B n p1).1 = 40 then cmq F 3004 6 deep (tkn B n p1).2.2.1 c g else if (tkn B n p1).1 = 41 then cmq F 3005 7 deep (tkn B n p1).2.2.1 c g else flt B n p1 2)
def bdy (B : Nat → Nat) (n rd : Nat) (F : PF) : PF := fun nt deep p ac ag => match nt with
  | 0 => bAt B n rd F deep p
  | 1 => bnd (F 0 deep p [] d0) (fun p1 c g => F 6 deep p1 c g)
  | 2 => bnd (F 1 deep p [] d0) (fun p1 c g => F 7 deep p1 c g)
  | 3 => bUn B n F deep p
  | 4 => bnd (F 3 deep p [] d0) (fun p1 c g => F 8 deep p1 c g)
  | 5 => bnd (F 4 deep p [] d0) (fun p1 c g => F 9 deep p1 c g)
  | 6 => lop B n F 6 0 34 3002 4 deep p ac ag
  | 7 => if (tkn B n p).1 = 33 then lop B n F 7 1 33 3001 3 deep p ac ag else lop B n F 7 1 32 3000 2 deep p ac ag
  | 8 => lop B n F 8 3 18 3007 8 deep p ac ag
  | _ => lop B n F 9 4 19 3008 9 deep p ac ag
def prs (B : Nat → Nat) (n rd : Nat) : Nat → PF
  | 0 => fun _ _ _ _ _ => none
  | f + 1 => bdy B n rd (prs B n rd f)
/-! what holds of it -/
def isT (nt : Nat) : Bool := nt = 3 || nt = 4 || nt = 5 || nt = 8 || nt = 9
def rgN (nt : Nat) (x : Int32) : Prop := if isT nt = true then x = 0 ∨ x = 1 else rg x (-1000000) 1000000
def cOk (rd nt : Nat) (c : List Nat) (g : DN) : Prop := (∀ nm wd, Bd nm → agW rd nm wd → ∀ s, mgo wd c s (g nm :: s)) ∧ ∀ nm, Bd nm → rgN nt (g nm)
def rOk (n rd nt p : Nat) (ac : List Nat) (r : PR) : Prop := match r with
  | Sum.inl x => 1 ≤ x.1 ∧ x.1 ≤ 4 ∧ x.2 ≤ n
  | Sum.inr x => p ≤ x.1 ∧ x.1 ≤ n ∧ (nt ≤ 5 → p < x.1) ∧ ac.length ≤ x.2.1.length ∧ x.2.1.length ≤ ac.length + (x.1 - p) ∧ cOk rd nt x.2.1 x.2.2
def fOk (B : Nat → Nat) (n rd : Nat) (F : PF) : Prop := ∀ nt deep p ac ag r, nt ≤ 9 → p ≤ n → (nt ≤ 5 → ac = []) → (6 ≤ nt → cOk rd nt ac ag) → F nt deep p ac ag = some r → rOk n rd nt p ac r
theorem clL_rg (v : Int64) : rg (clL v) (-1000000) 1000000 := by
  unfold clL
  have o1 : (1000000 : Int64).toInt = 1000000 := rfl
  have o2 : (-1000000 : Int64).toInt = -1000000 := rfl
  have h1 : (mnL 1000000 v).toInt ≤ 1000000 := by
    rw [mnL_e]
    by_cases q : lg_cmp v 1000000 ≤ 0
    · rw [if_pos q]; rw [cmp_le, o1] at q; exact q
    · rw [if_neg q, o1]; exact Int.le_refl _
  generalize mnL 1000000 v = w at *
  rw [mxL_e]
  have key : ∀ x : Int64, -1000000 ≤ x.toInt → x.toInt ≤ 1000000 → rg x.toInt32 (-1000000) 1000000 := by
    intro x h2 h3
    have : x.toInt32.toInt = x.toInt := by
      rw [Int64.toInt_toInt32]
      exact Int.bmod_eq_of_le (by omega) (by omega)
    unfold rg
    rw [this]
    exact ⟨h2, h3⟩
  by_cases q : 0 ≤ lg_cmp w (-1000000)
  · rw [if_pos q]
    have q := Int32.not_lt.mpr q
    rw [cmp_lt, o2] at q
    exact key w (by omega) h1
  · rw [if_neg q]; exact key _ (by decide) (by decide)
theorem of2_rg {o : Nat} {l r : Int32} (h : o = 2 ∨ o = 3 ∨ o = 4) : rg (of2 o l r) (-1000000) 1000000 := by
  rcases h with rfl | rfl | rfl <;> exact clL_rg _
theorem of2_cm {o : Nat} {l r : Int32} (h : o = 5 ∨ o = 6 ∨ o = 7) : of2 o l r = 0 ∨ of2 o l r = 1 := by
  rcases h with rfl | rfl | rfl
  · show (if l = r then (1 : Int32) else 0) = 0 ∨ (if l = r then (1 : Int32) else 0) = 1; split <;> simp
  · show (if l < r then (1 : Int32) else 0) = 0 ∨ (if l < r then (1 : Int32) else 0) = 1; split <;> simp
  · show (if r < l then (1 : Int32) else 0) = 0 ∨ (if r < l then (1 : Int32) else 0) = 1; split <;> simp
theorem of2_tr {o : Nat} {l r : Int32} (h : o = 8 ∨ o = 9) (hl : l = 0 ∨ l = 1) (hr : r = 0 ∨ r = 1) : of2 o l r = 0 ∨ of2 o l r = 1 := by
  rcases h with rfl | rfl <;> rcases hl with rfl | rfl <;> rcases hr with rfl | rfl <;> decide
theorem tr_rg {x : Int32} (h : x = 0 ∨ x = 1) : rg x (-1000000) 1000000 := by
  rcases h with rfl | rfl
  · exact ⟨by decide, by decide⟩
  · exact ⟨by decide, by decide⟩
theorem rgN_rg {nt : Nat} {x : Int32} (h : rgN nt x) : rg x (-1000000) 1000000 := by
  unfold rgN at h
  split at h
  · exact tr_rg h
  · exact h
theorem mgo_1 {wd : Nat → Int32} {k : Nat} {s s' : List Int32} (h : mst wd k s s') : mgo wd [k] s s' := ⟨s', h, rfl⟩
theorem mgo_op {wd : Nat → Int32} {c1 c2 : List Nat} {cd o : Nat} {x y : Int32} {s : List Int32} (hop : (cd, o) ∈ opL) (h1 : mgo wd c1 s (x :: s)) (h2 : mgo wd c2 (x :: s) (y :: x :: s)) (hx : rg x (-1000000) 1000000) (hy : rg y (-1000000) 1000000) : mgo wd (c1 ++ c2 ++ [cd]) s (of2 o x y :: s) := mgo_app (mgo_app h1 h2) (mgo_1 (Or.inr (Or.inr (Or.inr (Or.inr ⟨o, x, y, s, hop, rfl, hx, hy, rfl⟩)))))
theorem fk_ok {k w : Nat} (h1 : 1 ≤ w) (h2 : w ≤ 4) : 1 ≤ fkN k w ∧ fkN k w ≤ 4 := by unfold fkN; split <;> omega
section Prs
variable {B : Nat → Nat} {n rd : Nat}
theorem flt_ok {p w nt q : Nat} {ac : List Nat} {r : PR} (hp : p ≤ n) (h1 : 1 ≤ w) (h2 : w ≤ 4) (h : flt B n p w = some r) : rOk n rd nt q ac r := by
  have hf := tk_f (B := B) hp
  unfold flt at h
  injection h with h
  subst h
  exact ⟨(fk_ok h1 h2).1, (fk_ok h1 h2).2, hf.2.1⟩
theorem bnd_ok {o : Option PR} {k : Nat → List Nat → DN → Option PR} {r : PR} {P : PR → Prop} (h : bnd o k = some r) (hl : ∀ x, o = some (Sum.inl x) → P (Sum.inl x)) (hr : ∀ p c g, o = some (Sum.inr (p, c, g)) → k p c g = some r → P r) : P r := by
  cases o with
  | none => exact absurd h (by simp [bnd])
  | some z =>
    cases z with
    | inl x =>
      have h : some (Sum.inl x) = some r := h
      injection h with h
      subst h
      exact hl x rfl
    | inr x => exact hr x.1 x.2.1 x.2.2 rfl h
theorem lop_ok {F : PF} (hF : fOk B n rd F) {self sub tk cd o deep p : Nat} {ac : List Nat} {ag : DN} {r : PR} (hs6 : 6 ≤ self) (hs9 : self ≤ 9) (hsub : sub ≤ 5) (htk : tk ≠ 24) (hop : (cd, o) ∈ opL) (hst : ∀ x y, rgN self x → rgN sub y → rgN self (of2 o x y)) (hp : p ≤ n) (ha : cOk rd self ac ag) (h : lop B n F self sub tk cd o deep p ac ag = some r) : rOk n rd self p ac r := by
  have hf := tk_f (B := B) hp
  unfold lop at h
  by_cases e : (tkn B n p).1 = tk
  · rw [if_pos e] at h
    have hlt := hf.2.2.2.2.2.1 (by omega)
    refine bnd_ok h (fun x hx => ?_) (fun p2 c g hx hk => ?_)
    · exact hF sub deep _ [] d0 _ (by omega) hf.2.2.1 (fun _ => rfl) (fun z => by omega) hx
    · obtain ⟨a1, a2, a3, a4, a5, a6⟩ := hF sub deep _ [] d0 _ (by omega) hf.2.2.1 (fun _ => rfl) (fun z => by omega) hx
      have hc : cOk rd self (ac ++ c ++ [cd]) (fun nm => of2 o (ag nm) (g nm)) := ⟨fun nm wd hb hw s => mgo_op hop (ha.1 nm wd hb hw s) (a6.1 nm wd hb hw _) (rgN_rg (ha.2 nm hb)) (rgN_rg (a6.2 nm hb)), fun nm hb => hst _ _ (ha.2 nm hb) (a6.2 nm hb)⟩
      have hr := hF self deep p2 _ _ r (by omega) a2 (fun z => by omega) (fun _ => hc) hk
      cases r with
      | inl x => exact hr
      | inr x =>
        obtain ⟨b1, b2, b3, b4, b5, b6⟩ := hr
        simp only [List.length_append, List.length_cons, List.length_nil] at b4 b5 a5
        have hf1 := hf.1
        have a1 : (tkn B n p).2.2.1 ≤ p2 := a1
        have a5 : c.length ≤ 0 + (p2 - (tkn B n p).2.2.1) := a5
        exact ⟨by omega, b2, fun z => by omega, by omega, by omega, b6⟩
  · rw [if_neg e] at h
    injection h with h
    subst h
    exact ⟨Nat.le_refl _, hp, fun z => by omega, Nat.le_refl _, by show ac.length ≤ ac.length + (p - p); omega, ha⟩
theorem seq_ok {F : PF} (hF : fOk B n rd F) {nt sub lp deep p : Nat} {r : PR} (hn : nt ≤ 5) (hsub : sub ≤ 5) (hl6 : 6 ≤ lp) (hl9 : lp ≤ 9) (ht : ∀ c g, cOk rd sub c g → cOk rd lp c g) (ht2 : ∀ c g, cOk rd lp c g → cOk rd nt c g) (hp : p ≤ n) (h : bnd (F sub deep p [] d0) (fun p1 c g => F lp deep p1 c g) = some r) : rOk n rd nt p [] r := by
  refine bnd_ok h (fun x hx => ?_) (fun p2 c g hx hk => ?_)
  · exact hF sub deep p [] d0 _ (by omega) hp (fun _ => rfl) (fun z => by omega) hx
  · obtain ⟨a1, a2, a3, a4, a5, a6⟩ := hF sub deep p [] d0 _ (by omega) hp (fun _ => rfl) (fun z => by omega) hx
    have hr := hF lp deep p2 _ _ r (by omega) a2 (fun z => by omega) (fun _ => ht _ _ a6) hk
    cases r with
    | inl x => exact hr
    | inr x =>
      obtain ⟨b1, b2, b3, b4, b5, b6⟩ := hr
      have a3 := a3 hsub
      have a5 : c.length ≤ 0 + (p2 - p) := a5
      have a3 : p < p2 := a3
      have b1 : p2 ≤ x.1 := b1
      have b5 : x.2.1.length ≤ c.length + (x.1 - p2) := b5
      exact ⟨by omega, b2, fun _ => by omega, Nat.zero_le _, by show x.2.1.length ≤ 0 + (x.1 - p); omega, ht2 _ _ b6⟩
theorem prs_ok : ∀ f, fOk B n rd (prs B n rd f) := by
  intro f
  induction f with
  | zero => intro nt deep p ac ag r _ _ _ _ h; exact absurd h (by simp [prs])
  | succ f ih =>
    intro nt deep p ac ag r hn hp hac hag h
    have hf := tk_f (B := B) hp
    have exq_ok : ∀ {p1 k : Nat} {R : Nat → Option PR}, p1 ≤ n → p ≤ p1 → k ≠ 24 → exq B n p1 k R = some r → ((∀ e, p1 < e → e ≤ n → R e = some r → rOk n rd nt p [] r) → rOk n rd nt p [] r) := by
      intro p1 k R h1 h2 h24 h3 hk
      have hf1 := tk_f (B := B) h1
      unfold exq at h3
      by_cases e : (tkn B n p1).1 = k
      · rw [if_pos e] at h3
        have hlt := hf1.2.2.2.2.2.1 (by omega)
        exact hk _ (by have := hf1.1; omega) hf1.2.2.1 h3
      · rw [if_neg e] at h3; exact flt_ok h1 (by omega) (by omega) h3
    have opn_ok : ∀ {R : Nat → Option PR}, (tkn B n p).1 ≠ 24 → opn B n deep p R = some r → (∀ e, p < e → e ≤ n → deep < 6 → R e = some r → rOk n rd nt p [] r) → rOk n rd nt p [] r := by
      intro R h24 h3 hk
      unfold opn at h3
      by_cases e : deep < 6
      · rw [if_pos e] at h3
        have hlt := hf.2.2.2.2.2.1 h24
        exact hk _ (by have := hf.1; omega) hf.2.2.1 e h3
      · rw [if_neg e] at h3; exact flt_ok hp (by omega) (by omega) h3
    have sub : ∀ {nt' deep' p' : Nat} {r' : PR}, nt' ≤ 5 → p' ≤ n → prs B n rd f nt' deep' p' [] d0 = some r' → rOk n rd nt' p' [] r' := fun a b c => ih _ _ _ [] d0 _ (by omega) b (fun _ => rfl) (fun z => by omega) c
    have h : bdy B n rd (prs B n rd f) nt deep p ac ag = some r := h
    match nt, hn, hac, hag, h with
    | 0, _, hac, _, h =>
      have hac := hac (by omega)
      subst hac
      have h : bAt B n rd (prs B n rd f) deep p = some r := h
      unfold bAt at h
      by_cases e1 : (tkn B n p).1 = 23
      · rw [if_pos e1] at h
        injection h with h
        subst h
        have hlt := hf.2.2.2.2.2.1 (by omega)
        have hv := hf.2.2.2.2.2.2.2.1 e1
        have := hf.1
        refine ⟨by show p ≤ (tkn B n p).2.2.1; omega, hf.2.2.1, fun _ => by show p < (tkn B n p).2.2.1; omega, Nat.zero_le _, by show 1 ≤ 0 + ((tkn B n p).2.2.1 - p); omega, fun nm wd _ _ s => mgo_1 (Or.inl ⟨by omega, rfl⟩), fun nm _ => ?_⟩
        show rg (nI (tkn B n p).2.2.2) (-1000000) 1000000
        exact rg_n (by omega) (by omega) (by omega)
      · rw [if_neg e1] at h
        cases hq : nmW rd (tkn B n p).1 with
        | some q =>
          rw [hq] at h
          have h : some (Sum.inr ((tkn B n p).2.2.1, [1000 + q.1], fun nm => nm q.2)) = some r := h
          injection h with h
          subst h
          have hnm : (tkn B n p).1 ≠ 24 ∧ q.1 < 6 ∧ ∀ nm wd, agW rd nm wd → wd q.1 = nm q.2 := by
            unfold nmW at hq
            by_cases c1 : (tkn B n p).1 = 14
            · rw [if_pos c1] at hq; injection hq with hq; subst hq; exact ⟨by omega, by show 0 < 6; omega, fun nm wd hw => hw.1⟩
            rw [if_neg c1] at hq
            by_cases c2 : (tkn B n p).1 = 15
            · rw [if_pos c2] at hq; injection hq with hq; subst hq; exact ⟨by omega, by show 1 < 6; omega, fun nm wd hw => hw.2.1⟩
            rw [if_neg c2] at hq
            by_cases c3 : (tkn B n p).1 = 2
            · rw [if_pos c3] at hq; injection hq with hq; subst hq; exact ⟨by omega, by show 2 < 6; omega, fun nm wd hw => hw.2.2.1⟩
            rw [if_neg c3] at hq
            by_cases c4 : (tkn B n p).1 = 16 ∧ rd = 0
            · rw [if_pos c4] at hq; injection hq with hq; subst hq; exact ⟨by omega, by show 3 < 6; omega, fun nm wd hw => hw.2.2.2.1 c4.2⟩
            rw [if_neg c4] at hq
            by_cases c5 : (tkn B n p).1 = 17 ∧ rd = 1
            · rw [if_pos c5] at hq; injection hq with hq; subst hq; exact ⟨by omega, by show 4 < 6; omega, fun nm wd hw => (hw.2.2.2.2 c5.2).1⟩
            rw [if_neg c5] at hq
            by_cases c6 : (tkn B n p).1 = 5 ∧ rd = 1
            · rw [if_pos c6] at hq; injection hq with hq; subst hq; exact ⟨by omega, by show 5 < 6; omega, fun nm wd hw => (hw.2.2.2.2 c6.2).2⟩
            rw [if_neg c6] at hq
            exact absurd hq (by simp)
          have hlt := hf.2.2.2.2.2.1 hnm.1
          have := hf.1
          refine ⟨by show p ≤ (tkn B n p).2.2.1; omega, hf.2.2.1, fun _ => by show p < (tkn B n p).2.2.1; omega, Nat.zero_le _, by show 1 ≤ 0 + ((tkn B n p).2.2.1 - p); omega, fun nm wd _ hw s => mgo_1 (Or.inr (Or.inl ⟨q.1, hnm.2.1, rfl, by rw [hnm.2.2 nm wd hw]⟩)), fun nm hb => ?_⟩
          show rg (nm q.2) (-1000000) 1000000
          exact (hb _).mono (by omega) (by omega)
        | none =>
          rw [hq] at h
          have h : (if (tkn B n p).1 = 35 then _ else _) = some r := h
          by_cases e2 : (tkn B n p).1 = 35
          · rw [if_pos e2] at h
            refine opn_ok (by omega) h (fun e he hen _ h => bnd_ok h (fun x hx => by have := sub (nt' := 2) (p' := e) (by omega) hen hx; exact this) (fun p1 c g hx hk => ?_))
            obtain ⟨a1, a2, a3, a4, a5, a6⟩ := sub (nt' := 2) (by omega) hen hx
            have a1 : e ≤ p1 := a1
            have a5 : c.length ≤ 0 + (p1 - e) := a5
            refine exq_ok a2 (by omega) (by omega) hk (fun e2 h1 h2 h3 => ?_)
            injection h3 with h3
            subst h3
            exact ⟨by show p ≤ e2; omega, h2, fun _ => by show p < e2; omega, Nat.zero_le _, by show c.length ≤ 0 + (e2 - p); omega, a6⟩
          · rw [if_neg e2] at h
            by_cases e3 : (tkn B n p).1 = 10
            · rw [if_pos e3] at h
              refine opn_ok (by omega) h (fun e he hen _ h => bnd_ok h (fun x hx => by have := sub (nt' := 5) (p' := e) (by omega) hen hx; exact this) (fun p1 c1 g1 hx hk => ?_))
              obtain ⟨a1, a2, a3, a4, a5, a6⟩ := sub (nt' := 5) (by omega) hen hx
              have a1 : e ≤ p1 := a1
              have a5 : c1.length ≤ 0 + (p1 - e) := a5
              refine exq_ok a2 (by omega) (by omega) hk (fun p2 h1 h2 h3 => bnd_ok h3 (fun x hx => by have := sub (nt' := 2) (p' := p2) (by omega) h2 hx; exact this) (fun p3 c2 g2 hx hk => ?_))
              obtain ⟨b1, b2, b3, b4, b5, b6⟩ := sub (nt' := 2) (by omega) h2 hx
              have b1 : p2 ≤ p3 := b1
              have b5 : c2.length ≤ 0 + (p3 - p2) := b5
              refine exq_ok b2 (by omega) (by omega) hk (fun p4 h4 h5 h6 => bnd_ok h6 (fun x hx => by have := sub (nt' := 2) (p' := p4) (by omega) h5 hx; exact this) (fun p5 c3 g3 hx hk => ?_))
              obtain ⟨d1, d2, d3, d4, d5, d6⟩ := sub (nt' := 2) (by omega) h5 hx
              have d1 : p4 ≤ p5 := d1
              have d5 : c3.length ≤ 0 + (p5 - p4) := d5
              refine exq_ok d2 (by omega) (by omega) hk (fun p6 h7 h8 h9 => ?_)
              injection h9 with h9
              subst h9
              refine ⟨by show p ≤ p6; omega, h8, fun _ => by show p < p6; omega, Nat.zero_le _, by show (c1 ++ c2 ++ c3 ++ [3009]).length ≤ 0 + (p6 - p); simp only [List.length_append, List.length_cons, List.length_nil]; omega, fun nm wd hb hw s => ?_, fun nm hb => ?_⟩
              · have ht := a6.2 nm hb
                have m1 := mgo_app (mgo_app (a6.1 nm wd hb hw s) (b6.1 nm wd hb hw _)) (d6.1 nm wd hb hw _)
                refine mgo_app m1 (mgo_1 (Or.inr (Or.inr (Or.inr (Or.inl ⟨rfl, g1 nm, g2 nm, g3 nm, s, rfl, ?_⟩)))))
                have ht : g1 nm = 0 ∨ g1 nm = 1 := ht
                show (if g1 nm = 0 then g3 nm else g2 nm) :: s = (if g1 nm = 1 then g2 nm else g3 nm) :: s
                rcases ht with z | z
                · rw [if_pos z, if_neg (by rw [z]; decide)]
                · rw [if_neg (by rw [z]; decide), if_pos z]
              · show rg (if g1 nm = 0 then g3 nm else g2 nm) (-1000000) 1000000
                split
                · exact d6.2 nm hb
                · exact b6.2 nm hb
            · rw [if_neg e3] at h; exact flt_ok hp (by omega) (by omega) h
    | 1, _, hac, _, h => rw [hac (by omega)]; exact seq_ok ih (nt := 1) (sub := 0) (lp := 6) (by omega) (by omega) (by omega) (by omega) (fun _ _ z => z) (fun _ _ z => z) hp h
    | 2, _, hac, _, h => rw [hac (by omega)]; exact seq_ok ih (nt := 2) (sub := 1) (lp := 7) (by omega) (by omega) (by omega) (by omega) (fun _ _ z => z) (fun _ _ z => z) hp h
    | 3, _, hac, _, h =>
      have hac := hac (by omega)
      subst hac
      have h : bUn B n (prs B n rd f) deep p = some r := h
      unfold bUn at h
      by_cases e1 : (tkn B n p).1 = 20
      · rw [if_pos e1] at h
        refine opn_ok (by omega) h (fun e he hen _ h => bnd_ok h (fun x hx => by have := sub (nt' := 3) (p' := e) (by omega) hen hx; exact this) (fun p1 c g hx hk => ?_))
        obtain ⟨a1, a2, a3, a4, a5, a6⟩ := sub (nt' := 3) (by omega) hen hx
        have a1 : e ≤ p1 := a1
        have a5 : c.length ≤ 0 + (p1 - e) := a5
        injection hk with hk
        subst hk
        refine ⟨by show p ≤ p1; omega, a2, fun _ => by show p < p1; omega, Nat.zero_le _, by show (c ++ [3006]).length ≤ 0 + (p1 - p); simp only [List.length_append, List.length_cons, List.length_nil]; omega, fun nm wd hb hw s => mgo_app (a6.1 nm wd hb hw s) (mgo_1 (Or.inr (Or.inr (Or.inl ⟨rfl, g nm, s, rfl, rfl⟩)))), fun nm hb => ?_⟩
        have ht : g nm = 0 ∨ g nm = 1 := a6.2 nm hb
        show 1 - g nm = 0 ∨ 1 - g nm = 1
        rcases ht with z | z <;> rw [z] <;> decide
      · rw [if_neg e1] at h
        by_cases e2 : (tkn B n p).1 = 37
        · rw [if_pos e2] at h
          refine opn_ok (by omega) h (fun e he hen _ h => bnd_ok h (fun x hx => by have := sub (nt' := 5) (p' := e) (by omega) hen hx; exact this) (fun p1 c g hx hk => ?_))
          obtain ⟨a1, a2, a3, a4, a5, a6⟩ := sub (nt' := 5) (by omega) hen hx
          have a1 : e ≤ p1 := a1
          have a5 : c.length ≤ 0 + (p1 - e) := a5
          refine exq_ok a2 (by omega) (by omega) hk (fun e2 h1 h2 h3 => ?_)
          injection h3 with h3
          subst h3
          exact ⟨by show p ≤ e2; omega, h2, fun _ => by show p < e2; omega, Nat.zero_le _, by show c.length ≤ 0 + (e2 - p); omega, a6⟩
        · rw [if_neg e2] at h
          refine bnd_ok h (fun x hx => by have := sub (nt' := 2) (p' := p) (by omega) hp hx; exact this) (fun p1 c g hx hk => ?_)
          obtain ⟨a1, a2, a3, a4, a5, a6⟩ := sub (nt' := 2) (by omega) hp hx
          have a1 : p ≤ p1 := a1
          have a5 : c.length ≤ 0 + (p1 - p) := a5
          have hf1 := tk_f (B := B) (n := n) (p := p1) a2
          have cm : ∀ {cd o : Nat}, (tkn B n p1).1 ≠ 24 → (cd, o) ∈ opL → (o = 5 ∨ o = 6 ∨ o = 7) → cmq (prs B n rd f) cd o deep (tkn B n p1).2.2.1 c g = some r → rOk n rd 3 p [] r := by
            intro cd o h24 hop ho hk
            have hlt := hf1.2.2.2.2.2.1 h24
            have hf11 : p1 ≤ (tkn B n p1).2.1 := hf1.1
            refine bnd_ok hk (fun x hx => by have := sub (nt' := 2) (by omega) hf1.2.2.1 hx; exact this) (fun p2 c2 g2 hx hk => ?_)
            obtain ⟨b1, b2, b3, b4, b5, b6⟩ := sub (nt' := 2) (by omega) hf1.2.2.1 hx
            have b1 : (tkn B n p1).2.2.1 ≤ p2 := b1
            have b5 : c2.length ≤ 0 + (p2 - (tkn B n p1).2.2.1) := b5
            injection hk with hk
            subst hk
            refine ⟨by show p ≤ p2; omega, b2, fun _ => by show p < p2; omega, Nat.zero_le _, by show (c ++ c2 ++ [cd]).length ≤ 0 + (p2 - p); simp only [List.length_append, List.length_cons, List.length_nil]; omega, fun nm wd hb hw s => mgo_op hop (a6.1 nm wd hb hw s) (b6.1 nm wd hb hw _) (a6.2 nm hb) (b6.2 nm hb), fun nm hb => ?_⟩
            show of2 o (g nm) (g2 nm) = 0 ∨ of2 o (g nm) (g2 nm) = 1
            exact of2_cm ho
          by_cases c1 : (tkn B n p1).1 = 39
          · rw [if_pos c1] at hk; exact cm (by omega) (by decide) (Or.inl rfl) hk
          rw [if_neg c1] at hk
          by_cases c2 : (tkn B n p1).1 = 40
          · rw [if_pos c2] at hk; exact cm (by omega) (by decide) (Or.inr (Or.inl rfl)) hk
          rw [if_neg c2] at hk
          by_cases c3 : (tkn B n p1).1 = 41
          · rw [if_pos c3] at hk; exact cm (by omega) (by decide) (Or.inr (Or.inr rfl)) hk
          rw [if_neg c3] at hk
          exact flt_ok a2 (by omega) (by omega) hk
    | 4, _, hac, _, h => rw [hac (by omega)]; exact seq_ok ih (nt := 4) (sub := 3) (lp := 8) (by omega) (by omega) (by omega) (by omega) (fun _ _ z => z) (fun _ _ z => z) hp h
    | 5, _, hac, _, h => rw [hac (by omega)]; exact seq_ok ih (nt := 5) (sub := 4) (lp := 9) (by omega) (by omega) (by omega) (by omega) (fun _ _ z => z) (fun _ _ z => z) hp h
    | 6, _, _, hag, h => exact lop_ok ih (by omega) (by omega) (by omega) (by omega) (by decide) (fun _ _ _ _ => of2_rg (Or.inr (Or.inr rfl))) hp (hag (by omega)) h
    | 7, _, _, hag, h =>
      have h : (if (tkn B n p).1 = 33 then _ else _) = some r := h
      by_cases e : (tkn B n p).1 = 33
      · rw [if_pos e] at h; exact lop_ok ih (by omega) (by omega) (by omega) (by omega) (by decide) (fun _ _ _ _ => of2_rg (Or.inr (Or.inl rfl))) hp (hag (by omega)) h
      · rw [if_neg e] at h; exact lop_ok ih (by omega) (by omega) (by omega) (by omega) (by decide) (fun _ _ _ _ => of2_rg (Or.inl rfl)) hp (hag (by omega)) h
    | 8, _, _, hag, h => exact lop_ok ih (self := 8) (sub := 3) (tk := 18) (cd := 3007) (o := 8) (by omega) (by omega) (by omega) (by omega) (by decide) (fun x y a b => of2_tr (Or.inl rfl) (show x = 0 ∨ x = 1 from a) (show y = 0 ∨ y = 1 from b)) hp (hag (by omega)) h
    | 9, _, _, hag, h => exact lop_ok ih (self := 9) (sub := 4) (tk := 19) (cd := 3008) (o := 9) (by omega) (by omega) (by omega) (by omega) (by decide) (fun x y a b => of2_tr (Or.inr rfl) (show x = 0 ∨ x = 1 from a) (show y = 0 ∨ y = 1 from b)) hp (hag (by omega)) h
    | k + 10, hn, _, _, _ => omega
end Prs

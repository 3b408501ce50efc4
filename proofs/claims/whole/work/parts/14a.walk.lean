/-! walks over waits; rings, as bits -/
def ch (R : RD) : Nat → List Nat → Nat → Prop
  | a, [], b => a = b
  | a, w :: l, b => w < rW R ∧ rf R w = a ∧ ch R (rt R w) l b
theorem ch_app {R : RD} {b : Nat} {l2 : List Nat} : ∀ (l1 : List Nat) (a : Nat), ch R a (l1 ++ l2) b ↔ ∃ m, ch R a l1 m ∧ ch R m l2 b
  | [], a => ⟨fun h => ⟨a, rfl, h⟩, fun ⟨m, e, h⟩ => by have e : a = m := e; subst e; exact h⟩
  | w :: l1, a => by
    show (w < rW R ∧ rf R w = a ∧ ch R (rt R w) (l1 ++ l2) b) ↔ ∃ m, (w < rW R ∧ rf R w = a ∧ ch R (rt R w) l1 m) ∧ ch R m l2 b
    rw [ch_app l1]
    exact ⟨fun ⟨x, y, m, z, u⟩ => ⟨m, ⟨x, y, z⟩, u⟩, fun ⟨m, ⟨x, y, z⟩, u⟩ => ⟨x, y, m, z, u⟩⟩
theorem ch_mem {R : RD} {b : Nat} : ∀ (l : List Nat) (a : Nat), ch R a l b → ∀ w, w ∈ l → w < rW R
  | [], _, _ => fun w h => absurd h List.not_mem_nil
  | v :: l, a, h => fun w hw => by
    rcases List.mem_cons.mp hw with e | e
    · rw [e]; exact h.1
    · exact ch_mem l _ h.2.2 w e
theorem ch_to {R : RD} {b : Nat} : ∀ (l : List Nat) (a : Nat), ch R a l b → a :: l.map (rt R) = l.map (rf R) ++ [b]
  | [], a, h => by have h : a = b := h; rw [h]; rfl
  | w :: l, a, h => by
    have := ch_to l _ h.2.2
    show a :: rt R w :: l.map (rt R) = rf R w :: (l.map (rf R) ++ [b])
    rw [this, h.2.1]
def bts : List Nat → Nat
  | [] => 0
  | w :: l => bts l ||| 2 ^ w
theorem bts_b {w : Nat} : ∀ l : List Nat, (bts l).testBit w = true ↔ w ∈ l
  | [] => by simp [bts]
  | v :: l => by
    show (bts l ||| 2 ^ v).testBit w = true ↔ w ∈ v :: l
    rw [Nat.testBit_or, Bool.or_eq_true, bts_b l, Nat.testBit_two_pow, decide_eq_true_eq, List.mem_cons]
    exact ⟨fun h => h.elim Or.inr (fun e => Or.inl e.symm), fun h => h.elim (fun e => Or.inr e.symm) Or.inl⟩
theorem bts_lt {n : Nat} : ∀ l : List Nat, (∀ w, w ∈ l → w < n) → bts l < 2 ^ n
  | [], _ => Nat.pow_pos (by omega)
  | v :: l, h => Nat.or_lt_two_pow (bts_lt l (fun w hw => h w (List.mem_cons_of_mem _ hw))) (Nat.pow_lt_pow_right (by omega) (h v List.mem_cons_self))
theorem bts_app {l2 : List Nat} : ∀ l1 : List Nat, bts (l1 ++ l2) = bts l1 ||| bts l2
  | [] => by show bts l2 = 0 ||| bts l2; rw [Nat.zero_or]
  | v :: l1 => by
    show bts (l1 ++ l2) ||| 2 ^ v = (bts l1 ||| 2 ^ v) ||| bts l2
    rw [bts_app l1, Nat.or_assoc, Nat.or_assoc, Nat.or_comm (bts l2)]
/-- a ring's waits in their order -/
def cyc (R : RD) (l : List Nat) : Prop := l ≠ [] ∧ (∃ a, ch R a l a) ∧ (l.map (rf R)).Nodup
def Rng (R : RD) (k : Nat) : Prop := ∃ l, cyc R l ∧ k = bts l
theorem cyc_rot {R : RD} {l1 l2 : List Nat} (h : cyc R (l1 ++ l2)) : cyc R (l2 ++ l1) := by
  obtain ⟨h0, ⟨a, ha⟩, hn⟩ := h
  obtain ⟨m, h1, h2⟩ := (ch_app l1 a).mp ha
  refine ⟨fun e => h0 ?_, ⟨m, (ch_app l2 m).mpr ⟨a, h2, h1⟩⟩, ?_⟩
  · rw [List.append_eq_nil_iff] at e ⊢; exact ⟨e.2, e.1⟩
  · rw [List.map_append, List.nodup_append] at hn ⊢
    exact ⟨hn.2.1, hn.1, fun x hx y hy e => hn.2.2 y hy x hx e.symm⟩
theorem nd_len {l : List Nat} : ∀ {l' : List Nat}, l.Nodup → (∀ x, x ∈ l → x ∈ l') → l.length ≤ l'.length := by
  induction l with
  | nil => intro l' _ _; exact Nat.zero_le _
  | cons x l ih =>
    intro l' h hs
    obtain ⟨as, bs, e⟩ := List.append_of_mem (hs x List.mem_cons_self)
    have hx := (List.nodup_cons.mp h).1
    have := ih (l' := as ++ bs) (List.nodup_cons.mp h).2 (fun y hy => by
      have := hs y (List.mem_cons_of_mem _ hy)
      rw [e, List.mem_append, List.mem_cons] at this
      rw [List.mem_append]
      rcases this with z | z | z
      · exact Or.inl z
      · rw [z] at hy; exact absurd hy hx
      · exact Or.inr z)
    rw [e]
    simp only [List.length_append, List.length_cons] at this ⊢
    omega
theorem nd_sub {l l' : List Nat} (h : l.Nodup) (hs : ∀ x, x ∈ l → x ∈ l') (hl : l'.length ≤ l.length) : ∀ x, x ∈ l' → x ∈ l := by
  intro x hx
  rcases Classical.em (x ∈ l) with z | z
  · exact z
  · have := nd_len (l := x :: l) (l' := l') (List.nodup_cons.mpr ⟨z, h⟩) (fun y hy => by
      rcases List.mem_cons.mp hy with e | e
      · rw [e]; exact hx
      · exact hs y e)
    simp only [List.length_cons] at this
    omega
theorem nd_map {f : Nat → Nat} : ∀ {l : List Nat}, (l.map f).Nodup → l.Nodup ∧ ∀ v w, v ∈ l → w ∈ l → f v = f w → v = w
  | [], _ => ⟨List.nodup_nil, fun v _ h => absurd h List.not_mem_nil⟩
  | x :: l, h => by
    have h : (f x :: l.map f).Nodup := h
    obtain ⟨h1, h2⟩ := List.nodup_cons.mp h
    obtain ⟨i1, i2⟩ := nd_map h2
    have hx : ∀ v, v ∈ l → f v ≠ f x := fun v hv e => h1 (e ▸ List.mem_map_of_mem hv)
    refine ⟨List.nodup_cons.mpr ⟨fun z => hx x z rfl, i1⟩, fun v w hv hw e => ?_⟩
    rcases List.mem_cons.mp hv with z | z <;> rcases List.mem_cons.mp hw with y | y
    · rw [z, y]
    · rw [z] at e; exact absurd e.symm (hx w y)
    · rw [y] at e; exact absurd e (hx v z)
    · exact i2 v w z y e
theorem cyc_len {R : RD} (hR : WF R) {l : List Nat} (h : cyc R l) : l.length ≤ 6 := by
  obtain ⟨_, ⟨a, ha⟩, hn⟩ := h
  have := nd_len (l' := List.range (rC R)) hn (fun x hx => by
    obtain ⟨w, hw, e⟩ := List.mem_map.mp hx
    rw [← e]
    exact List.mem_range.mpr (hR.2.2.1 w (ch_mem l a ha w hw)).1)
  rw [List.length_map, List.length_range] at this
  have := hR.1
  omega
/-! the program's search -/
def lp (br : Nat → List Nat) : Nat → List Nat
  | 0 => []
  | n + 1 => lp br n ++ br n
theorem lp_mem {br : Nat → List Nat} {x : Nat} : ∀ n, x ∈ lp br n ↔ ∃ i, i < n ∧ x ∈ br i
  | 0 => ⟨fun h => absurd h List.not_mem_nil, fun ⟨i, h, _⟩ => absurd h (by omega)⟩
  | n + 1 => by
    show x ∈ lp br n ++ br n ↔ _
    rw [List.mem_append, lp_mem n]
    constructor
    · rintro (⟨i, h, hx⟩ | h)
      · exact ⟨i, by omega, hx⟩
      · exact ⟨n, by omega, h⟩
    · rintro ⟨i, h, hx⟩
      by_cases e : i = n
      · subst e; exact Or.inr hx
      · exact Or.inl ⟨i, by omega, hx⟩
theorem lp_nd {br : Nat → List Nat} : ∀ n, (∀ i, i < n → (br i).Nodup) → (∀ i j, i < j → j < n → ∀ x, x ∈ br i → x ∈ br j → False) → (lp br n).Nodup
  | 0, _, _ => List.nodup_nil
  | n + 1, h1, h2 => by
    show (lp br n ++ br n).Nodup
    rw [List.nodup_append]
    refine ⟨lp_nd n (fun i hi => h1 i (by omega)) (fun i j hij hj => h2 i j hij (by omega)), h1 n (by omega), fun x hx y hy e => ?_⟩
    obtain ⟨i, hi, hxi⟩ := (lp_mem n).mp hx
    subst e
    exact h2 i n hi (by omega) x hxi hy
def dfs (R : RD) (fi : Nat) : Nat → Nat → Nat → Nat → List Nat
  | 0, _, _, _ => []
  | f + 1, he, mr, ws => lp (fun w => if rf R w = he then (if rt R w = fi then [ws ||| 2 ^ w] else if fi < rt R w ∧ mr.testBit (rt R w) = false then dfs R fi f (rt R w) (mr ||| 2 ^ rt R w) (ws ||| 2 ^ w) else []) else []) (rW R)
def pth (R : RD) (fi : Nat) : List Nat → Nat → Nat → Prop
  | [], _, _ => False
  | w :: l, he, mr => w < rW R ∧ rf R w = he ∧ ((rt R w = fi ∧ l = []) ∨ (fi < rt R w ∧ mr.testBit (rt R w) = false ∧ pth R fi l (rt R w) (mr ||| 2 ^ rt R w)))
theorem dfs_mem {R : RD} {fi x : Nat} : ∀ f he mr ws, x ∈ dfs R fi f he mr ws ↔ ∃ l, pth R fi l he mr ∧ l.length ≤ f ∧ x = ws ||| bts l := by
  intro f
  induction f with
  | zero =>
    intro he mr ws
    refine ⟨fun h => absurd h List.not_mem_nil, ?_⟩
    rintro ⟨l, hp, hl, _⟩
    have : l = [] := List.eq_nil_of_length_eq_zero (by omega)
    rw [this] at hp
    exact absurd hp (fun z => z)
  | succ f ih =>
    intro he mr ws
    show x ∈ lp _ (rW R) ↔ _
    rw [lp_mem]
    constructor
    · rintro ⟨w, hw, hx⟩
      by_cases e : rf R w = he
      · rw [if_pos e] at hx
        by_cases e2 : rt R w = fi
        · rw [if_pos e2] at hx
          refine ⟨[w], ⟨hw, e, Or.inl ⟨e2, rfl⟩⟩, by simp, ?_⟩
          show x = ws ||| (0 ||| 2 ^ w)
          rw [Nat.zero_or]
          exact List.mem_singleton.mp hx
        · rw [if_neg e2] at hx
          by_cases e3 : fi < rt R w ∧ mr.testBit (rt R w) = false
          · rw [if_pos e3] at hx
            obtain ⟨l, hp, hl, hxe⟩ := (ih _ _ _).mp hx
            refine ⟨w :: l, ⟨hw, e, Or.inr ⟨e3.1, e3.2, hp⟩⟩, by simp; omega, ?_⟩
            show x = ws ||| (bts l ||| 2 ^ w)
            rw [hxe, Nat.or_assoc, Nat.or_comm (2 ^ w)]
          · rw [if_neg e3] at hx; exact absurd hx List.not_mem_nil
      · rw [if_neg e] at hx; exact absurd hx List.not_mem_nil
    · rintro ⟨l, hp, hl, hxe⟩
      match l, hp, hl, hxe with
      | w :: l, hp, hl, hxe =>
        obtain ⟨hw, e, hr⟩ := hp
        refine ⟨w, hw, ?_⟩
        rw [if_pos e]
        have hxe : x = ws ||| (bts l ||| 2 ^ w) := hxe
        rcases hr with ⟨e2, e3⟩ | ⟨e2, e3, e4⟩
        · subst e3
          rw [if_pos e2, hxe]
          show _ ∈ [ws ||| 2 ^ w]
          rw [show bts [] = 0 from rfl, Nat.zero_or]
          exact List.mem_singleton.mpr rfl
        · rw [if_neg (by omega), if_pos ⟨e2, e3⟩]
          refine (ih _ _ _).mpr ⟨l, e4, by simp at hl; omega, ?_⟩
          rw [hxe, Nat.or_assoc, Nat.or_comm (2 ^ w)]
theorem tb_or2 {k v w : Nat} : (k ||| 2 ^ v).testBit w = true ↔ k.testBit w = true ∨ v = w := by
  rw [Nat.testBit_or, Bool.or_eq_true, Nat.testBit_two_pow, decide_eq_true_eq]
theorem tb_or2f {k v w : Nat} : (k ||| 2 ^ v).testBit w = false ↔ k.testBit w = false ∧ v ≠ w := by
  rw [Nat.testBit_or, Bool.or_eq_false_iff, Nat.testBit_two_pow, decide_eq_false_iff_not]
theorem pth_inv {R : RD} {fi : Nat} : ∀ (l : List Nat) (he mr : Nat), pth R fi l he mr → (he = fi ∨ mr.testBit he = true) → ch R he l fi ∧ (l.map (rf R)).Nodup ∧ ∃ w t, l = w :: t ∧ rf R w = he ∧ ∀ v, v ∈ t → fi < rf R v ∧ mr.testBit (rf R v) = false
  | [], _, _, h, _ => absurd h (fun z => z)
  | w :: l, he, mr, h, hm => by
    obtain ⟨hw, e, hr⟩ := h
    rcases hr with ⟨e2, e3⟩ | ⟨e2, e3, e4⟩
    · subst e3
      exact ⟨⟨hw, e, e2⟩, by simp, w, [], rfl, e, fun v hv => absurd hv List.not_mem_nil⟩
    · obtain ⟨h1, h2, w2, t2, h3, h4, h5⟩ := pth_inv l (rt R w) (mr ||| 2 ^ rt R w) e4 (Or.inr (tb_or2.mpr (Or.inr rfl)))
      have hall : ∀ v, v ∈ l → fi < rf R v ∧ mr.testBit (rf R v) = false := by
        intro v hv
        rw [h3] at hv
        rcases List.mem_cons.mp hv with z | z
        · rw [z, h4]; exact ⟨e2, e3⟩
        · have := h5 v z; exact ⟨this.1, (tb_or2f.mp this.2).1⟩
      refine ⟨⟨hw, e, h1⟩, ?_, w, l, rfl, e, hall⟩
      show (rf R w :: l.map (rf R)).Nodup
      refine List.nodup_cons.mpr ⟨fun z => ?_, h2⟩
      obtain ⟨v, hv, ev⟩ := List.mem_map.mp z
      have := hall v hv
      rw [ev, e] at this
      rcases hm with y | y
      · omega
      · rw [y] at this; exact absurd this.2 (by decide)
theorem ch_pth {R : RD} {fi : Nat} : ∀ (l : List Nat) (w he mr : Nat), ch R he (w :: l) fi → (∀ v, v ∈ l → fi < rf R v ∧ mr.testBit (rf R v) = false) → ((w :: l).map (rf R)).Nodup → pth R fi (w :: l) he mr
  | [], w, he, mr, h, _, _ => ⟨h.1, h.2.1, Or.inl ⟨h.2.2, rfl⟩⟩
  | w2 :: l, w, he, mr, h, hv, hn => by
    have hn : (rf R w :: (w2 :: l).map (rf R)).Nodup := hn
    have hn2 := (List.nodup_cons.mp hn).2
    have hn3 : (rf R w2 :: l.map (rf R)).Nodup := hn2
    have e2 : rf R w2 = rt R w := h.2.2.2.1
    have h2 := hv w2 List.mem_cons_self
    rw [e2] at h2
    refine ⟨h.1, h.2.1, Or.inr ⟨h2.1, h2.2, ch_pth l w2 _ _ h.2.2 (fun v hvl => ?_) hn2⟩⟩
    have h3 := hv v (List.mem_cons_of_mem _ hvl)
    refine ⟨h3.1, tb_or2f.mpr ⟨h3.2, fun e => ?_⟩⟩
    have := (List.nodup_cons.mp hn3).1
    rw [e2, e] at this
    exact this (List.mem_map_of_mem hvl)
def DL (R : RD) : List Nat := lp (fun c => dfs R c 7 c 0 0) (rC R)
theorem least_of {f : Nat → Nat} : ∀ {l : List Nat}, l ≠ [] → ∃ w, w ∈ l ∧ ∀ v, v ∈ l → f w ≤ f v
  | [], h => absurd rfl h
  | [x], _ => ⟨x, List.mem_cons_self, fun v hv => by rw [List.mem_singleton.mp hv]; exact Nat.le_refl _⟩
  | x :: y :: l, _ => by
    obtain ⟨w, hw, h⟩ := least_of (f := f) (l := y :: l) (by simp)
    by_cases e : f x ≤ f w
    · refine ⟨x, List.mem_cons_self, fun v hv => ?_⟩
      rcases List.mem_cons.mp hv with z | z
      · rw [z]; exact Nat.le_refl _
      · exact Nat.le_trans e (h v z)
    · refine ⟨w, List.mem_cons_of_mem _ hw, fun v hv => ?_⟩
      rcases List.mem_cons.mp hv with z | z
      · rw [z]; omega
      · exact h v z
theorem DL_mem {R : RD} (hR : WF R) {x : Nat} : x ∈ DL R ↔ Rng R x := by
  unfold DL
  rw [lp_mem]
  constructor
  · rintro ⟨c, hc, hx⟩
    obtain ⟨l, hp, hl, e⟩ := (dfs_mem 7 c 0 0).mp hx
    obtain ⟨h1, h2, w, t, h3, _, _⟩ := pth_inv l c 0 hp (Or.inl rfl)
    refine ⟨l, ⟨by rw [h3]; simp, ⟨c, h1⟩, h2⟩, ?_⟩
    rw [e, Nat.zero_or]
  · rintro ⟨l, hcy, e⟩
    obtain ⟨w, hw, hmin⟩ := least_of (f := rf R) hcy.1
    obtain ⟨as, bs, el⟩ := List.append_of_mem hw
    have eb : bts (w :: bs ++ as) = bts l := by rw [el, bts_app, bts_app, Nat.or_comm]
    have hmem : ∀ v, v ∈ bs ++ as → v ∈ l := fun v hv => by
      rw [el]
      rw [List.mem_append] at hv ⊢
      exact hv.elim (fun z => Or.inr (List.mem_cons_of_mem _ z)) Or.inl
    rw [el] at hcy
    have hcy' : cyc R (w :: (bs ++ as)) := cyc_rot hcy
    obtain ⟨_, ⟨a, ha⟩, hn⟩ := hcy'
    have hwW : w < rW R := ha.1
    have ea : rf R w = a := ha.2.1
    subst ea
    have hlen := cyc_len hR (cyc_rot hcy)
    have hn' : (rf R w :: (bs ++ as).map (rf R)).Nodup := hn
    refine ⟨rf R w, (hR.2.2.1 w hwW).1, (dfs_mem 7 _ 0 0).mpr ⟨w :: (bs ++ as), ch_pth _ _ _ _ ha (fun v hv => ⟨?_, by simp⟩) hn, by have : (w :: (bs ++ as)).length ≤ 6 := hlen; omega, ?_⟩⟩
    · have h1 := hmin v (hmem v hv)
      have h2 : rf R v ≠ rf R w := fun z => (List.nodup_cons.mp hn').1 (z ▸ List.mem_map_of_mem hv)
      omega
    · rw [Nat.zero_or, e]; exact eb.symm

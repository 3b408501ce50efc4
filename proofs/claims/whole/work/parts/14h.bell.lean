/-! putting off ends if no ring is slower than the period -/
def wtN (R : RD) (m p w : Nat) : Int := (tN R m w : Int) - ((rl R w * p : Nat) : Int)
def wsm (R : RD) (m p : Nat) : List Nat → Int
  | [] => 0
  | w :: l => wtN R m p w + wsm R m p l
theorem wsm_app {R : RD} {m p : Nat} {l2 : List Nat} : ∀ l1, wsm R m p (l1 ++ l2) = wsm R m p l1 + wsm R m p l2
  | [] => by show wsm R m p l2 = 0 + _; omega
  | w :: l1 => by show wtN R m p w + wsm R m p (l1 ++ l2) = wtN R m p w + wsm R m p l1 + _; rw [wsm_app l1]; omega
theorem wsm_ls {R : RD} {m p : Nat} : ∀ l, wsm R m p l = (lsm (tN R m) l : Int) - ((p * lsm (rl R) l : Nat) : Int)
  | [] => by show (0 : Int) = ((0 : Nat) : Int) - ((p * 0 : Nat) : Int); simp
  | w :: l => by
    show wtN R m p w + wsm R m p l = ((lsm (tN R m) l + tN R m w : Nat) : Int) - ((p * (lsm (rl R) l + rl R w) : Nat) : Int)
    rw [wsm_ls l, Nat.mul_add, Nat.mul_comm p (rl R w)]
    unfold wtN
    omega
def alw (o : Nat) (l : List Nat) : Prop := ∀ w, w ∈ l → o.testBit w = false
theorem alw_and {o : Nat} {l : List Nat} : alw o l ↔ bts l &&& o = 0 := by
  constructor
  · intro h
    refine Nat.eq_of_testBit_eq (fun i => ?_)
    rw [Nat.testBit_and, Nat.zero_testBit]
    cases e : (bts l).testBit i with
    | false => rfl
    | true => rw [h i ((bts_b l).mp e)]; rfl
  · intro h w hw
    have h1 : (bts l &&& o).testBit w = false := by rw [h, Nat.zero_testBit]
    rw [Nat.testBit_and, (bts_b l).mpr hw, Bool.true_and] at h1
    exact h1
theorem cyc_wt {R : RD} {m p o : Nat} {l : List Nat} (h : cyc R l) (hf : fsP R m p o) (ha : alw o l) : wsm R m p l ≤ 0 := by
  have hcy := h
  obtain ⟨_, ⟨a, hc⟩, hn⟩ := h
  have h1 : ¬ ¬ rgT R m (bts l) ≤ p * rgL R (bts l) := fun z => hf (bts l) ⟨l, hcy, rfl⟩ z (alw_and.mp ha)
  have h1 := Classical.not_not.mp h1
  unfold rgT rgL at h1
  rw [sb_bts l (nd_map hn).1 (ch_mem l a hc), sb_bts l (nd_map hn).1 (ch_mem l a hc)] at h1
  rw [wsm_ls]
  omega
theorem walk_dec {R : RD} {b : Nat} : ∀ (l : List Nat) (a : Nat), ch R a l b → (a :: l.map (rt R)).Nodup ∨ ∃ x y z c, l = x ++ y ++ z ∧ cyc R y ∧ ch R a x c ∧ ch R c z b
  | [], a, _ => Or.inl (by simp)
  | w :: l, a, h => by
    rcases walk_dec l _ h.2.2 with hn | ⟨x, y, z, c, e, hy, hx, hz⟩
    · by_cases ha : a ∈ (w :: l).map (rt R)
      · obtain ⟨u, hu, eu⟩ := List.mem_map.mp ha
        obtain ⟨p, q, epq⟩ := List.append_of_mem hu
        have e2 : w :: l = (p ++ [u]) ++ q := by rw [epq]; simp
        have hw : ch R a (w :: l) b := h
        rw [e2] at hw
        obtain ⟨c, h1, h2⟩ := (ch_app (p ++ [u]) a).mp hw
        obtain ⟨c2, h3, h4⟩ := (ch_app p a).mp h1
        have ec : rt R u = c := h4.2.2
        rw [eu] at ec
        subst ec
        have hnn : ((w :: l).map (rt R)).Nodup := hn
        rw [e2, List.map_append, List.nodup_append, List.map_append] at hnn
        have hpn := hnn.1
        have hto := ch_to (p ++ [u]) a h1
        rw [List.map_append] at hto
        have hto : (a :: p.map (rt R)) ++ [rt R u] = (p ++ [u]).map (rf R) ++ [a] := by simpa using hto
        rw [eu] at hto
        have e3 : a :: p.map (rt R) = (p ++ [u]).map (rf R) := List.append_cancel_right hto
        refine Or.inr ⟨[], p ++ [u], q, a, by rw [e2]; simp, ⟨by simp, ⟨a, h1⟩, ?_⟩, rfl, h2⟩
        rw [← e3]
        have hpn : (p.map (rt R) ++ [rt R u]).Nodup := hpn
        rw [eu, List.nodup_append] at hpn
        exact List.nodup_cons.mpr ⟨fun z => hpn.2.2 a z a List.mem_cons_self rfl, hpn.1⟩
      · exact Or.inl (List.nodup_cons.mpr ⟨ha, hn⟩)
    · refine Or.inr ⟨w :: x, y, z, c, by rw [e]; simp, hy, ⟨h.1, h.2.1, hx⟩, hz⟩
theorem walk_cut {R : RD} (hR : WF R) {m p o : Nat} (hf : fsP R m p o) {b : Nat} : ∀ (n : Nat) (l : List Nat) (a : Nat), l.length ≤ n → ch R a l b → alw o l → ∃ a' l', ch R a' l' b ∧ alw o l' ∧ l'.length ≤ 5 ∧ wsm R m p l ≤ wsm R m p l'
  | 0, l, a, hl, hc, ha => ⟨a, l, hc, ha, by omega, Int.le_refl _⟩
  | n + 1, l, a, hl, hc, ha => by
    rcases walk_dec l a hc with hn | ⟨x, y, z, c, e, hy, hx, hz⟩
    · refine ⟨a, l, hc, ha, ?_, Int.le_refl _⟩
      match l, hc, hn with
      | [], _, _ => simp
      | w :: l, hc, hn =>
        have hb := ch_mem (w :: l) a hc
        have := nd_len (l' := List.range (rC R)) hn (fun v hv => by
          rcases List.mem_cons.mp hv with q | q
          · rw [q, ← hc.2.1]; exact List.mem_range.mpr (hR.2.2.1 w hc.1).1
          · obtain ⟨u, hu, eu⟩ := List.mem_map.mp q
            rw [← eu]; exact List.mem_range.mpr (hR.2.2.1 u (hb u hu)).2.1)
        rw [List.length_range, List.length_cons, List.length_map] at this
        have := hR.1
        omega
    · have hal : ∀ v, v ∈ x ++ y ++ z → o.testBit v = false := fun v hv => ha v (e ▸ hv)
      have hwy := cyc_wt hy hf (fun v hv => hal v (by simp [hv]))
      have hly : 1 ≤ y.length := by
        rcases Nat.eq_zero_or_pos y.length with q | q
        · exact absurd (List.eq_nil_of_length_eq_zero q) hy.1
        · exact q
      obtain ⟨a', l', h1, h2, h3, h4⟩ := walk_cut hR hf n (x ++ z) a (by rw [e] at hl; simp only [List.length_append] at hl ⊢; omega) ((ch_app x a).mpr ⟨c, hx, hz⟩) (fun v hv => hal v (by rw [List.mem_append] at hv; rcases hv with q | q <;> simp [q]))
      refine ⟨a', l', h1, h2, h3, ?_⟩
      rw [e, wsm_app, wsm_app]
      rw [wsm_app] at h4
      omega
/-! one putting off -/
def hb9 (g : Nat → Int32) (B : Nat) : Prop := ∀ c, rg (g c) 0 B
theorem its_i {R : RD} (hR : WF R) {m p B n : Nat} {g : Nat → Int32} (hm : m ≤ 9) (hp : p ≤ 999) (hB : B ≤ 100000) (hg : hb9 g B) (hn : n < rW R) : ((g (rf R n) + nI (tN R m n)) - nI (rl R n) * nI p).toInt = (g (rf R n)).toInt + wtN R m p n ∧ wtN R m p n ≤ 999 := by
  obtain ⟨_, t2⟩ := tN_ok hR hn hm
  have l2 := (hR.2.2.1 n hn).2.2.1
  have h1 := hg (rf R n)
  have hlp := Nat.mul_le_mul l2 hp
  have e1 := rg_add h1 (rg_n (n := tN R m n) (a := (tN R m n : Int)) (b := (tN R m n : Int)) (by omega) (by omega) (by omega)) (by omega) (by omega)
  unfold wtN
  rw [pk_mul]
  have ea : (g (rf R n) + nI (tN R m n)).toInt = (g (rf R n)).toInt + (tN R m n : Int) := by
    rw [Int32.toInt_add, nI_toInt (by omega)]
    have := h1.1; have := h1.2
    exact Int.bmod_eq_of_le (by omega) (by omega)
  rw [Int32.toInt_sub, ea, nI_toInt (by omega)]
  have := h1.1; have := h1.2
  refine ⟨?_, by omega⟩
  rw [Int.bmod_eq_of_le (by omega) (by omega)]
  omega
theorem ps_hb {R : RD} (hR : WF R) {m p o B : Nat} {h : Nat → Int32} (hm : m ≤ 9) (hp : p ≤ 999) (hB : B ≤ 80000) (hh : hb9 h B) : ∀ n, n ≤ rW R → hb9 (psN R m (nI p) o h n).1 (B + n * 999)
  | 0, _ => by intro c; exact (hh c).mono (by omega) (by omega)
  | n + 1, hn => by
    have ih := ps_hb hR (o := o) hm hp hB hh n (by omega)
    have hW := hR.2.1
    by_cases e : o.testBit n = false ∧ (psN R m (nI p) o h n).1 (rt R n) < ((psN R m (nI p) o h n).1 (rf R n) + nI (tN R m n)) - nI (rl R n) * nI p
    · rw [ps_y e]
      intro c
      show rg (if c = rt R n then _ else _) _ _
      by_cases y : c = rt R n
      · rw [if_pos y]
        have h1 := its_i hR (m := m) (p := p) (B := B + n * 999) hm hp (by omega) ih (show n < rW R by omega)
        have h2 := Int32.lt_iff_toInt_lt.mp e.2
        have h3 := ih (rt R n)
        have h4 := ih (rf R n)
        refine ⟨by have := h3.1; omega, ?_⟩
        rw [h1.1]
        have := h4.2
        rw [Nat.succ_mul]
        omega
      · rw [if_neg y]; exact (ih c).mono (by omega) (by rw [Nat.succ_mul]; omega)
    · rw [ps_n e]
      intro c
      exact (ih c).mono (by omega) (by rw [Nat.succ_mul]; omega)
theorem ps_up {R : RD} {m o : Nat} {p : Int32} {h : Nat → Int32} (c : Nat) : ∀ n j, ((psN R m p o h n).1 c).toInt ≤ ((psN R m p o h (n + j)).1 c).toInt
  | n, 0 => Int.le_refl _
  | n, j + 1 => by
    have ih := ps_up (R := R) (m := m) (o := o) (p := p) (h := h) c n j
    refine Int.le_trans ih ?_
    show _ ≤ ((psN R m p o h (n + j + 1)).1 c).toInt
    by_cases e : o.testBit (n + j) = false ∧ (psN R m p o h (n + j)).1 (rt R (n + j)) < ((psN R m p o h (n + j)).1 (rf R (n + j)) + nI (tN R m (n + j))) - nI (rl R (n + j)) * p
    · rw [ps_y e]
      show _ ≤ (if c = rt R (n + j) then _ else _ : Int32).toInt
      by_cases y : c = rt R (n + j)
      · rw [if_pos y, y]
        have := Int32.lt_iff_toInt_lt.mp e.2
        omega
      · rw [if_neg y]; exact Int.le_refl _
    · rw [ps_n e]; exact Int.le_refl _
theorem ps_cov {R : RD} (hR : WF R) {m p o B : Nat} {h : Nat → Int32} (hm : m ≤ 9) (hp : p ≤ 999) (hB : B ≤ 80000) (hh : hb9 h B) {w : Nat} (hw : w < rW R) (ho : o.testBit w = false) : (h (rf R w)).toInt + wtN R m p w ≤ ((psN R m (nI p) o h (rW R)).1 (rt R w)).toInt := by
  have hb := ps_hb hR (o := o) hm hp hB hh w (by omega)
  have hW := hR.2.1
  have h1 := its_i hR (m := m) (p := p) (B := B + w * 999) hm hp (by omega) hb hw
  have u0 := ps_up (R := R) (m := m) (o := o) (p := nI p) (h := h) (rf R w) 0 w
  rw [Nat.zero_add] at u0
  have u0 : (h (rf R w)).toInt ≤ ((psN R m (nI p) o h w).1 (rf R w)).toInt := u0
  have u2 := ps_up (R := R) (m := m) (o := o) (p := nI p) (h := h) (rt R w) (w + 1) (rW R - (w + 1))
  rw [show w + 1 + (rW R - (w + 1)) = rW R by omega] at u2
  refine Int.le_trans ?_ u2
  by_cases e : o.testBit w = false ∧ (psN R m (nI p) o h w).1 (rt R w) < ((psN R m (nI p) o h w).1 (rf R w) + nI (tN R m w)) - nI (rl R w) * nI p
  · rw [ps_y e]
    show _ ≤ (if rt R w = rt R w then _ else _ : Int32).toInt
    rw [if_pos rfl, h1.1]
    omega
  · rw [ps_n e]
    have : ¬ (psN R m (nI p) o h w).1 (rt R w) < ((psN R m (nI p) o h w).1 (rf R w) + nI (tN R m w)) - nI (rl R w) * nI p := fun z => e ⟨ho, z⟩
    have := Int32.le_iff_toInt_le.mp (Int32.not_lt.mp this)
    rw [h1.1] at this
    omega
theorem ps_same {R : RD} {m o : Nat} {p : Int32} {h : Nat → Int32} : ∀ n, (psN R m p o h n).2 = false → (psN R m p o h n).1 = h
  | 0, _ => rfl
  | n + 1, hf => by
    by_cases e : o.testBit n = false ∧ (psN R m p o h n).1 (rt R n) < ((psN R m p o h n).1 (rf R n) + nI (tN R m n)) - nI (rl R n) * p
    · rw [ps_y e] at hf; exact absurd hf (by simp)
    · rw [ps_n e] at hf ⊢; exact ps_same n hf
theorem ps_more {R : RD} {m o : Nat} {p : Int32} {h : Nat → Int32} : ∀ n, (psN R m p o h n).2 = true → ∃ c j, j ≤ n ∧ (h c).toInt < ((psN R m p o h j).1 c).toInt
  | 0, hf => absurd hf (by simp [psN])
  | n + 1, hf => by
    by_cases e : o.testBit n = false ∧ (psN R m p o h n).1 (rt R n) < ((psN R m p o h n).1 (rf R n) + nI (tN R m n)) - nI (rl R n) * p
    · refine ⟨rt R n, n + 1, Nat.le_refl _, ?_⟩
      rw [ps_y e]
      show _ < (if rt R n = rt R n then _ else _ : Int32).toInt
      rw [if_pos rfl]
      have u0 := ps_up (R := R) (m := m) (o := o) (p := p) (h := h) (rt R n) 0 n
      rw [Nat.zero_add] at u0
      have u0 : (h (rt R n)).toInt ≤ ((psN R m p o h n).1 (rt R n)).toInt := u0
      have := Int32.lt_iff_toInt_lt.mp e.2
      omega
    · rw [ps_n e] at hf
      obtain ⟨c, j, hj, hc⟩ := ps_more n hf
      exact ⟨c, j, by omega, hc⟩
/-- each number is that of a walk -/
def wkP (R : RD) (m p o : Nat) (g : Nat → Int32) : Prop := ∀ c, ∃ a l, ch R a l c ∧ alw o l ∧ (g c).toInt = wsm R m p l
theorem ps_wk {R : RD} (hR : WF R) {m p o B : Nat} {h : Nat → Int32} (hm : m ≤ 9) (hp : p ≤ 999) (hB : B ≤ 80000) (hh : hb9 h B) (hk : wkP R m p o h) : ∀ n, n ≤ rW R → wkP R m p o (psN R m (nI p) o h n).1
  | 0, _ => hk
  | n + 1, hn => by
    have ih := ps_wk hR hm hp hB hh hk n (by omega)
    have hb := ps_hb hR (o := o) hm hp hB hh n (by omega)
    have hW := hR.2.1
    by_cases e : o.testBit n = false ∧ (psN R m (nI p) o h n).1 (rt R n) < ((psN R m (nI p) o h n).1 (rf R n) + nI (tN R m n)) - nI (rl R n) * nI p
    · rw [ps_y e]
      intro c
      by_cases y : c = rt R n
      · obtain ⟨a, l, h1, h2, h3⟩ := ih (rf R n)
        refine ⟨a, l ++ [n], ?_, fun v hv => ?_, ?_⟩
        · rw [y]; exact (ch_app l a).mpr ⟨rf R n, h1, by omega, rfl, rfl⟩
        · rcases List.mem_append.mp hv with q | q
          · exact h2 v q
          · rw [List.mem_singleton.mp q]; exact e.1
        · show (if c = rt R n then _ else _ : Int32).toInt = _
          rw [if_pos y, (its_i hR (m := m) (p := p) (B := B + n * 999) hm hp (by omega) hb (show n < rW R by omega)).1, wsm_app, h3]
          show _ = wsm R m p l + (wtN R m p n + 0)
          omega
      · obtain ⟨a, l, h1, h2, h3⟩ := ih c
        refine ⟨a, l, h1, h2, ?_⟩
        show (if c = rt R n then _ else _ : Int32).toInt = _
        rw [if_neg y]; exact h3
    · rw [ps_n e]; exact ih
def cvP (R : RD) (m p o : Nat) (g : Nat → Int32) (i : Nat) : Prop := ∀ a l c, ch R a l c → alw o l → l.length ≤ i → wsm R m p l ≤ (g c).toInt
theorem ps_cv {R : RD} (hR : WF R) {m p o B i : Nat} {h : Nat → Int32} (hm : m ≤ 9) (hp : p ≤ 999) (hB : B ≤ 80000) (hh : hb9 h B) (hk : cvP R m p o h i) : cvP R m p o (psN R m (nI p) o h (rW R)).1 (i + 1) := by
  intro a l c hc ha hl
  rcases List.eq_nil_or_concat l with e | ⟨l', w, e⟩
  · subst e
    have h1 := hk a [] c hc ha (by simp)
    have u := ps_up (R := R) (m := m) (o := o) (p := nI p) (h := h) c 0 (rW R)
    rw [Nat.zero_add] at u
    exact Int.le_trans h1 u
  · rw [e] at hc ha hl ⊢
    rw [List.concat_eq_append] at hc ha hl ⊢
    obtain ⟨c', h1, h2⟩ := (ch_app l' a).mp hc
    have e1 : rf R w = c' := h2.2.1
    have e2 : rt R w = c := h2.2.2
    subst e1 e2
    have h3 := hk a l' _ h1 (fun v hv => ha v (by simp [hv])) (by simp at hl; omega)
    have h4 := ps_cov hR hm hp hB hh h2.1 (ha w (by simp))
    rw [wsm_app]
    show wsm R m p l' + (wtN R m p w + 0) ≤ _
    omega
theorem kp_iff {R : RD} (hR : WF R) {m p o : Nat} (hm : m ≤ 9) (hp : p ≤ 999) : (∃ g, kpN R m (nI p) o 7 (fun _ => 0) = some g) ↔ fsP R m p o := by
  have hW := hR.2.1
  constructor
  · rintro ⟨g, hg⟩
    have key : ∀ (f : Nat) (h : Nat → Int32) (B : Nat), B + f * 9990 ≤ 80000 → hb9 h B → kpN R m (nI p) o f h = some g → ∃ h' B', B' ≤ 80000 ∧ hb9 h' B' ∧ (psN R m (nI p) o h' (rW R)).2 = false := by
      intro f
      induction f with
      | zero => intro h B _ _ e; exact absurd e (by simp [kpN])
      | succ f ih =>
        intro h B hB hh e
        have e2 : kpN R m (nI p) o (f + 1) h = if (psN R m (nI p) o h (rW R)).2 = true then kpN R m (nI p) o f (psN R m (nI p) o h (rW R)).1 else some (psN R m (nI p) o h (rW R)).1 := rfl
        rw [e2] at e
        by_cases y : (psN R m (nI p) o h (rW R)).2 = true
        · rw [if_pos y] at e
          have hb := ps_hb hR (o := o) hm hp (by omega) hh (rW R) (Nat.le_refl _)
          exact ih _ (B + 9990) (by omega) (fun c => (hb c).mono (by omega) (by omega)) e
        · exact ⟨h, B, by omega, hh, by simpa using y⟩
    obtain ⟨h', B', hB', hh', hf'⟩ := key 7 (fun _ => 0) 0 (by omega) (fun c => ⟨by show (0 : Int) ≤ 0; omega, by show (0 : Int) ≤ _; omega⟩) hg
    have hs := ps_same (rW R) hf'
    have step : ∀ w, w < rW R → o.testBit w = false → (h' (rf R w)).toInt + wtN R m p w ≤ (h' (rt R w)).toInt := fun w hw ho => by
      have := ps_cov hR hm hp hB' hh' hw ho
      rw [hs] at this
      exact this
    have walk : ∀ (l : List Nat) (a b : Nat), ch R a l b → alw o l → (h' a).toInt + wsm R m p l ≤ (h' b).toInt := by
      intro l
      induction l with
      | nil => intro a b hc _; have hc : a = b := hc; rw [hc]; show _ + (0 : Int) ≤ _; omega
      | cons w l ih =>
        intro a b hc ha
        have h1 := ih _ b hc.2.2 (fun v hv => ha v (List.mem_cons_of_mem _ hv))
        have h2 := step w hc.1 (ha w List.mem_cons_self)
        rw [hc.2.1] at h2
        show _ + (wtN R m p w + wsm R m p l) ≤ _
        omega
    rintro k ⟨l, ⟨h0, ⟨a, hc⟩, hn⟩, e⟩ hgt hz
    rw [e] at hz hgt
    have := walk l a a hc (alw_and.mpr hz)
    rw [wsm_ls] at this
    unfold rgT rgL at hgt
    rw [sb_bts l (nd_map hn).1 (ch_mem l a hc), sb_bts l (nd_map hn).1 (ch_mem l a hc)] at hgt
    omega
  · intro hf
    have key : ∀ (j i : Nat) (h : Nat → Int32) (B : Nat), i + j = 5 → B + (j + 1) * 9990 ≤ 80000 → hb9 h B → wkP R m p o h → cvP R m p o h i → ∃ g, kpN R m (nI p) o (j + 2) h = some g := by
      intro j
      induction j with
      | zero =>
        intro i h B hi hB hh hk hcv
        have e2 : kpN R m (nI p) o (0 + 2) h = if (psN R m (nI p) o h (rW R)).2 = true then kpN R m (nI p) o 1 (psN R m (nI p) o h (rW R)).1 else some (psN R m (nI p) o h (rW R)).1 := rfl
        rw [e2]
        by_cases y : (psN R m (nI p) o h (rW R)).2 = true
        · obtain ⟨c, n, hn, hlt⟩ := ps_more (rW R) y
          obtain ⟨a, l, h1, h2, h3⟩ := ps_wk hR hm hp (by omega) hh hk n hn c
          obtain ⟨a', l', g1, g2, g3, g4⟩ := walk_cut hR hf l.length l a (Nat.le_refl _) h1 h2
          have := hcv a' l' c g1 g2 (by omega)
          omega
        · rw [if_neg y]; exact ⟨_, rfl⟩
      | succ j ih =>
        intro i h B hi hB hh hk hcv
        have e2 : kpN R m (nI p) o (j + 1 + 2) h = if (psN R m (nI p) o h (rW R)).2 = true then kpN R m (nI p) o (j + 2) (psN R m (nI p) o h (rW R)).1 else some (psN R m (nI p) o h (rW R)).1 := rfl
        rw [e2]
        by_cases y : (psN R m (nI p) o h (rW R)).2 = true
        · rw [if_pos y]
          have hb := ps_hb hR (o := o) hm hp (by omega) hh (rW R) (Nat.le_refl _)
          exact ih (i + 1) _ (B + 9990) (by omega) (by omega) (fun c => (hb c).mono (by omega) (by omega)) (ps_wk hR hm hp (by omega) hh hk (rW R) (Nat.le_refl _)) (ps_cv hR hm hp (by omega) hh hcv)
        · rw [if_neg y]; exact ⟨_, rfl⟩
    refine key 5 0 (fun _ => 0) 0 (by omega) (by omega) (fun c => ⟨by show (0 : Int) ≤ 0; omega, by show (0 : Int) ≤ _; omega⟩) (fun c => ⟨c, [], rfl, fun v hv => absurd hv List.not_mem_nil, rfl⟩) (fun a l c hc ha hl => ?_)
    have : l = [] := List.eq_nil_of_length_eq_zero (by omega)
    rw [this]
    exact Int.le_refl _

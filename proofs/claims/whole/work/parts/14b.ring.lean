/-! each ring is found once; what the reference takes for a ring -/
theorem dfs_nd {R : RD} {fi : Nat} : ∀ f he mr ws, (he = fi ∨ mr.testBit he = true) → (∀ v, ws.testBit v = true → rf R v ≠ he ∧ (rf R v = fi ∨ mr.testBit (rf R v) = true)) → (dfs R fi f he mr ws).Nodup := by
  intro f
  induction f with
  | zero => intro he mr ws _ _; exact List.nodup_nil
  | succ f ih =>
    intro he mr ws hm hws
    have bits : ∀ w x, x ∈ (if rf R w = he then (if rt R w = fi then [ws ||| 2 ^ w] else if fi < rt R w ∧ mr.testBit (rt R w) = false then dfs R fi f (rt R w) (mr ||| 2 ^ rt R w) (ws ||| 2 ^ w) else []) else []) → rf R w = he ∧ x.testBit w = true ∧ ∀ v, x.testBit v = true → rf R v = he → v = w := by
      intro w x hx
      by_cases e : rf R w = he
      · rw [if_pos e] at hx
        refine ⟨e, ?_⟩
        by_cases e2 : rt R w = fi
        · rw [if_pos e2] at hx
          rw [List.mem_singleton.mp hx]
          refine ⟨tb_or2.mpr (Or.inr rfl), fun v hv hvh => ?_⟩
          rcases tb_or2.mp hv with z | z
          · exact absurd hvh (hws v z).1
          · exact z.symm
        · rw [if_neg e2] at hx
          by_cases e3 : fi < rt R w ∧ mr.testBit (rt R w) = false
          · rw [if_pos e3] at hx
            obtain ⟨l, hp, _, hxe⟩ := (dfs_mem f _ _ _).mp hx
            obtain ⟨_, _, w2, t, h3, h4, h5⟩ := pth_inv l _ _ hp (Or.inr (tb_or2.mpr (Or.inr rfl)))
            rw [hxe]
            refine ⟨?_, fun v hv hvh => ?_⟩
            · rw [Nat.testBit_or, tb_or2.mpr (Or.inr rfl), Bool.true_or]
            · rw [Nat.testBit_or, Bool.or_eq_true] at hv
              rcases hv with z | z
              · rcases tb_or2.mp z with y | y
                · exact absurd hvh (hws v y).1
                · exact y.symm
              · have hvl := (bts_b l).mp z
                rw [h3] at hvl
                rcases List.mem_cons.mp hvl with y | y
                · rw [y, h4] at hvh
                  rcases hm with q | q
                  · omega
                  · rw [hvh, q] at e3; exact absurd e3.2 (by decide)
                · have := h5 v y
                  rw [hvh] at this
                  rcases hm with q | q
                  · omega
                  · have := (tb_or2f.mp this.2).1
                    rw [q] at this; exact absurd this (by decide)
          · rw [if_neg e3] at hx; exact absurd hx List.not_mem_nil
      · rw [if_neg e] at hx; exact absurd hx List.not_mem_nil
    refine lp_nd _ (fun w hw => ?_) (fun w w' hww hw' x hx hx' => ?_)
    · by_cases e : rf R w = he
      · rw [if_pos e]
        by_cases e2 : rt R w = fi
        · rw [if_pos e2]; simp
        · rw [if_neg e2]
          by_cases e3 : fi < rt R w ∧ mr.testBit (rt R w) = false
          · rw [if_pos e3]
            refine ih _ _ _ (Or.inr (tb_or2.mpr (Or.inr rfl))) (fun v hv => ?_)
            have key : rf R v = fi ∨ mr.testBit (rf R v) = true := by
              rcases tb_or2.mp hv with z | z
              · exact (hws v z).2
              · rw [← z, e]; exact hm
            refine ⟨fun z => ?_, key.elim Or.inl (fun z => Or.inr (tb_or2.mpr (Or.inl z)))⟩
            rcases key with q | q
            · omega
            · rw [z] at q; rw [q] at e3; exact absurd e3.2 (by decide)
          · rw [if_neg e3]; exact List.nodup_nil
      · rw [if_neg e]; exact List.nodup_nil
    · obtain ⟨_, _, h3⟩ := bits w x hx
      obtain ⟨h1, h2, _⟩ := bits w' x hx'
      have := h3 w' h2 h1
      omega
theorem DL_nd {R : RD} : (DL R).Nodup := by
  unfold DL
  refine lp_nd _ (fun c _ => dfs_nd 7 c 0 0 (Or.inl rfl) (fun v hv => by simp at hv)) (fun c c' hcc _ x hx hx' => ?_)
  obtain ⟨l, hp, _, e⟩ := (dfs_mem 7 c 0 0).mp hx
  obtain ⟨l', hp', _, e'⟩ := (dfs_mem 7 c' 0 0).mp hx'
  obtain ⟨_, _, w, t, h3, h4, _⟩ := pth_inv l c 0 hp (Or.inl rfl)
  obtain ⟨_, _, w', t', h3', h4', h5'⟩ := pth_inv l' c' 0 hp' (Or.inl rfl)
  rw [Nat.zero_or] at e e'
  have hw : x.testBit w = true := by rw [e]; exact (bts_b l).mpr (by rw [h3]; exact List.mem_cons_self)
  rw [e'] at hw
  have := (bts_b l').mp hw
  rw [h3'] at this
  rcases List.mem_cons.mp this with z | z
  · rw [z] at h4; omega
  · have := (h5' w z).1; omega
theorem Rng_lt {R : RD} {k : Nat} (h : Rng R k) : k < 2 ^ rW R ∧ k ≠ 0 := by
  obtain ⟨l, ⟨h0, ⟨a, ha⟩, _⟩, e⟩ := h
  rw [e]
  refine ⟨bts_lt l (ch_mem l a ha), fun z => ?_⟩
  match l, h0 with
  | w :: l, _ =>
    have := (bts_b (w := w) (w :: l)).mpr List.mem_cons_self
    rw [z] at this
    simp at this
theorem DL_len {R : RD} (hR : WF R) : (DL R).length ≤ 1023 := by
  have := nd_len (l := 0 :: DL R) (l' := List.range (2 ^ rW R)) (List.nodup_cons.mpr ⟨fun z => (Rng_lt ((DL_mem hR).mp z)).2 rfl, DL_nd⟩) (fun x hx => by
    rcases List.mem_cons.mp hx with z | z
    · rw [z]; exact List.mem_range.mpr (Nat.pow_pos (by omega))
    · exact List.mem_range.mpr (Rng_lt ((DL_mem hR).mp z)).1)
  rw [List.length_range, List.length_cons] at this
  have h2 : 2 ^ rW R ≤ 2 ^ 10 := Nat.pow_le_pow_right (by omega) hR.2.1
  omega
/-! sums over bits -/
def sbN (f : Nat → Nat) (k : Nat) : Nat → Nat
  | 0 => 0
  | n + 1 => sbN f k n + if k.testBit n = true then f n else 0
theorem sb_or {f : Nat → Nat} {k w : Nat} (h : k.testBit w = false) : ∀ n, sbN f (k ||| 2 ^ w) n = sbN f k n + if w < n then f w else 0
  | 0 => rfl
  | n + 1 => by
    simp only [sbN]
    rw [sb_or h n]
    by_cases e : n = w
    · subst e
      rw [if_pos (tb_or2.mpr (Or.inr rfl)), h, if_neg (Nat.lt_irrefl _), if_pos (Nat.lt_succ_self _)]
      simp
    · have : ((k ||| 2 ^ w).testBit n = true) ↔ (k.testBit n = true) := ⟨fun z => (tb_or2.mp z).elim id (fun y => absurd y.symm e), fun z => tb_or2.mpr (Or.inl z)⟩
      by_cases e2 : k.testBit n = true
      · rw [if_pos e2, if_pos (this.mpr e2)]
        by_cases e3 : w < n
        · rw [if_pos e3, if_pos (by omega)]; omega
        · rw [if_neg e3, if_neg (by omega)]; omega
      · rw [if_neg e2, if_neg (fun z => e2 (this.mp z))]
        by_cases e3 : w < n
        · rw [if_pos e3, if_pos (by omega)]; omega
        · rw [if_neg e3, if_neg (by omega)]
def lsm (f : Nat → Nat) : List Nat → Nat
  | [] => 0
  | w :: l => lsm f l + f w
theorem sb_0 {f : Nat → Nat} : ∀ n, sbN f 0 n = 0
  | 0 => rfl
  | n + 1 => by simp only [sbN]; rw [sb_0 n, if_neg (by simp)]
theorem sb_bts {f : Nat → Nat} {n : Nat} : ∀ l : List Nat, l.Nodup → (∀ w, w ∈ l → w < n) → sbN f (bts l) n = lsm f l
  | [], _, _ => sb_0 n
  | w :: l, h, hb => by
    obtain ⟨h1, h2⟩ := List.nodup_cons.mp h
    show sbN f (bts l ||| 2 ^ w) n = lsm f l + f w
    have hf : (bts l).testBit w = false := by
      cases e : (bts l).testBit w with
      | false => rfl
      | true => exact absurd ((bts_b l).mp e) h1
    rw [sb_or hf, if_pos (hb w List.mem_cons_self), sb_bts l h2 (fun v hv => hb v (List.mem_cons_of_mem _ hv))]
theorem lsm_1 : ∀ l : List Nat, lsm (fun _ => 1) l = l.length
  | [] => rfl
  | _ :: l => by show lsm _ l + 1 = l.length + 1; rw [lsm_1 l]
theorem sb_hi {f : Nat → Nat} {k n : Nat} (h : k < 2 ^ n) : ∀ j, sbN f k (n + j) = sbN f k n
  | 0 => rfl
  | j + 1 => by
    show sbN f k (n + j) + (if k.testBit (n + j) = true then f (n + j) else 0) = _
    rw [sb_hi h j, Nat.testBit_lt_two_pow (Nat.lt_of_lt_of_le h (Nat.pow_le_pow_right (by omega) (by omega)))]
    simp
theorem pop_tab : ((List.range 1024).all fun k => decide (popc 10 k = sbN (fun _ => 1) k 10)) = true := by decide +kernel
theorem pop_sb {k : Nat} (hk : k < 1024) : popc 10 k = sbN (fun _ => 1) k 10 := of_decide_eq_true (List.all_eq_true.mp pop_tab k (List.mem_range.mpr hk))
theorem pop_bts {l : List Nat} (h : l.Nodup) (hb : ∀ w, w ∈ l → w < 10) : popc 10 (bts l) = l.length := by
  rw [pop_sb (bts_lt (n := 10) l hb), sb_bts l h hb, lsm_1]
theorem fil_len {p : Nat → Bool} {k : Nat} (h : ∀ w, p w = k.testBit w) : ∀ n, ((List.range n).filter p).length = sbN (fun _ => 1) k n
  | 0 => rfl
  | n + 1 => by
    rw [List.range_succ, List.filter_append, List.length_append, fil_len h n]
    simp only [sbN]
    by_cases e : k.testBit n = true
    · rw [if_pos e, List.filter_cons_of_pos (by rw [h, e])]; rfl
    · rw [if_neg e, List.filter_cons_of_neg (by rw [h]; exact e)]; rfl
/-! the reference's test -/
def inN (g : Nat → Nat) (k : Nat) : Nat → Nat
  | 0 => 0
  | n + 1 => if k.testBit n = true then inN g k n ||| 2 ^ g n else inN g k n
theorem inN_b {g : Nat → Nat} {k c : Nat} : ∀ n, (inN g k n).testBit c = true ↔ ∃ v, v < n ∧ k.testBit v = true ∧ g v = c
  | 0 => ⟨fun h => by simp [inN] at h, fun ⟨v, h, _⟩ => absurd h (by omega)⟩
  | n + 1 => by
    simp only [inN]
    by_cases e : k.testBit n = true
    · rw [if_pos e, tb_or2, inN_b n]
      constructor
      · rintro (⟨v, h1, h2⟩ | h)
        · exact ⟨v, by omega, h2⟩
        · exact ⟨n, by omega, e, h⟩
      · rintro ⟨v, h1, h2, h3⟩
        by_cases y : v = n
        · subst y; exact Or.inr h3
        · exact Or.inl ⟨v, by omega, h2, h3⟩
    · rw [if_neg e, inN_b n]
      constructor
      · rintro ⟨v, h1, h2⟩; exact ⟨v, by omega, h2⟩
      · rintro ⟨v, h1, h2, h3⟩
        by_cases y : v = n
        · subst y; exact absurd h2 e
        · exact ⟨v, by omega, h2, h3⟩
def ijP (R : RD) (k n : Nat) : Prop := ∀ v w, v < w → w < n → k.testBit v = true → k.testBit w = true → rt R v ≠ rt R w ∧ rf R v ≠ rf R w
def lsN (k : Nat) : Nat → Nat
  | 0 => 0
  | n + 1 => if k.testBit n = true then n else lsN k n
theorem ls_ok {k : Nat} : ∀ n, (∃ w, w < n ∧ k.testBit w = true) → lsN k n < n ∧ k.testBit (lsN k n) = true
  | 0, ⟨w, h, _⟩ => absurd h (by omega)
  | n + 1, ⟨w, h, hw⟩ => by
    simp only [lsN]
    by_cases e : k.testBit n = true
    · rw [if_pos e]; exact ⟨by omega, e⟩
    · rw [if_neg e]
      have : w ≠ n := fun z => e (z ▸ hw)
      have := ls_ok n ⟨w, by omega, hw⟩
      exact ⟨by omega, this.2⟩
def onF (R : RD) (k c : Nat) : Nat → Nat → Nat
  | 0, _ => c
  | f + 1, w => if k.testBit w = true ∧ rf R w = c then rt R w else onF R k c f (w + 1)
theorem on_u {R : RD} {k c u : Nat} (h1 : ∀ v, k.testBit v = true → rf R v = c → v < rW R → v = u) (hu : k.testBit u = true) (hc : rf R u = c) (huW : u < rW R) : ∀ f w, w + f = rW R → w ≤ u → onF R k c f w = rt R u
  | 0, w, h, hw => by omega
  | f + 1, w, h, hw => by
    simp only [onF]
    by_cases e : k.testBit w = true ∧ rf R w = c
    · rw [if_pos e, h1 w e.1 e.2 (by omega)]
    · rw [if_neg e]
      have : w ≠ u := fun z => e (z ▸ ⟨hu, hc⟩)
      exact on_u h1 hu hc huW f (w + 1) (by omega) (by omega)
def orb (R : RD) (k t : Nat) : Nat → Nat → Option Nat
  | 0, _ => none
  | f + 1, c => if c = t then some 0 else (orb R k t f (onF R k c (rW R) 0)).map (· + 1)
theorem tbW {k n w : Nat} (h : k < 2 ^ n) (hw : k.testBit w = true) : w < n := by
  rcases Nat.lt_or_ge w n with z | z
  · exact z
  · rw [Nat.testBit_lt_two_pow (Nat.lt_of_lt_of_le h (Nat.pow_le_pow_right (by omega) z))] at hw
    exact absurd hw (by decide)
theorem ex_bit {k n : Nat} (h : k < 2 ^ n) (h0 : k ≠ 0) : ∃ w, w < n ∧ k.testBit w = true := by
  rcases Classical.em (∃ w, w < n ∧ k.testBit w = true) with z | z
  · exact z
  · refine absurd (Nat.eq_of_testBit_eq (fun i => ?_)) h0
    rw [Nat.zero_testBit]
    cases e : k.testBit i with
    | false => rfl
    | true => exact absurd ⟨i, tbW h e, e⟩ z
theorem ij_inj {R : RD} {k : Nat} (hk : k < 2 ^ rW R) (h : ijP R k (rW R)) : ∀ v w, k.testBit v = true → k.testBit w = true → (rt R v = rt R w ∨ rf R v = rf R w) → v = w := by
  intro v w hv hw e
  rcases Nat.lt_trichotomy v w with z | z | z
  · have := h v w z (tbW hk hw) hv hw; exact absurd e (fun y => y.elim this.1 this.2)
  · exact z
  · have := h w v z (tbW hk hv) hw hv; exact absurd e (fun y => y.elim (fun q => this.1 q.symm) (fun q => this.2 q.symm))
theorem ch_det {R : RD} {k t : Nat} (hi : ∀ v w, k.testBit v = true → k.testBit w = true → rf R v = rf R w → v = w) : ∀ (l l' : List Nat) (c : Nat), ch R c l t → ch R c l' t → (∀ v, v ∈ l → k.testBit v = true ∧ rf R v ≠ t) → (∀ v, v ∈ l' → k.testBit v = true ∧ rf R v ≠ t) → l = l'
  | [], [], _, _, _, _, _ => rfl
  | [], w :: l', c, h, h', _, hv' => by
    have h : c = t := h
    exact absurd (h'.2.1.trans h) (hv' w List.mem_cons_self).2
  | w :: l, [], c, h, h', hv, _ => by
    have h' : c = t := h'
    exact absurd (h.2.1.trans h') (hv w List.mem_cons_self).2
  | w :: l, w' :: l', c, h, h', hv, hv' => by
    have e : w = w' := hi w w' (hv w List.mem_cons_self).1 (hv' w' List.mem_cons_self).1 (h.2.1.trans h'.2.1.symm)
    subst e
    rw [ch_det hi l l' _ h.2.2 h'.2.2 (fun v z => hv v (List.mem_cons_of_mem _ z)) (fun v z => hv' v (List.mem_cons_of_mem _ z))]
theorem ring_ij {R : RD} {k : Nat} (h : Rng R k) : ijP R k (rW R) ∧ inN (rt R) k (rW R) = inN (rf R) k (rW R) := by
  obtain ⟨l, ⟨h0, ⟨a, ha⟩, hn⟩, e⟩ := h
  have hto := ch_to l a ha
  have hm := ch_mem l a ha
  have hnt : (l.map (rt R)).Nodup := by
    match l, h0, ha, hn, hto with
    | w :: t, _, ha, hn, hto =>
      have hto : a :: (w :: t).map (rt R) = rf R w :: (t.map (rf R) ++ [a]) := hto
      have e2 : (w :: t).map (rt R) = t.map (rf R) ++ [a] := (List.cons.inj hto).2
      have ea : rf R w = a := ha.2.1
      have hn : (rf R w :: t.map (rf R)).Nodup := hn
      rw [e2, List.nodup_append]
      refine ⟨(List.nodup_cons.mp hn).2, by simp, fun x hx y hy z => ?_⟩
      rw [List.mem_singleton.mp hy] at z
      rw [z, ← ea] at hx
      exact (List.nodup_cons.mp hn).1 hx
  have b : ∀ v, k.testBit v = true ↔ v ∈ l := fun v => by rw [e]; exact bts_b l
  refine ⟨fun v w hvw _ hv hw => ⟨fun z => ?_, fun z => ?_⟩, Nat.eq_of_testBit_eq (fun c => ?_)⟩
  · have := (nd_map hnt).2 v w ((b v).mp hv) ((b w).mp hw) z; omega
  · have := (nd_map hn).2 v w ((b v).mp hv) ((b w).mp hw) z; omega
  · have key : (inN (rt R) k (rW R)).testBit c = true ↔ (inN (rf R) k (rW R)).testBit c = true := by
      rw [inN_b, inN_b]
      have hmem : c ∈ l.map (rt R) ↔ c ∈ l.map (rf R) := by
        have h1 : c ∈ a :: l.map (rt R) ↔ c ∈ l.map (rf R) ++ [a] := by rw [hto]
        have ha1 : a ∈ l.map (rf R) := by
          match l, h0, ha with
          | w :: t, _, ha => rw [← ha.2.1]; exact List.mem_map_of_mem List.mem_cons_self
        have ha2 : a ∈ l.map (rt R) := by
          match l, h0, hto with
          | w :: t, _, hto =>
            have hto : a :: (w :: t).map (rt R) = rf R w :: (t.map (rf R) ++ [a]) := hto
            rw [(List.cons.inj hto).2]; simp
        rw [List.mem_cons, List.mem_append, List.mem_singleton] at h1
        constructor
        · intro z; rcases h1.mp (Or.inr z) with y | y
          · exact y
          · rw [y]; exact ha1
        · intro z; rcases h1.mpr (Or.inl z) with y | y
          · rw [y]; exact ha2
          · exact y
      constructor
      · rintro ⟨v, h1, h2, h3⟩
        obtain ⟨u, hu, eu⟩ := List.mem_map.mp (hmem.mp (h3 ▸ List.mem_map_of_mem ((b v).mp h2)))
        exact ⟨u, hm u hu, (b u).mpr hu, eu⟩
      · rintro ⟨v, h1, h2, h3⟩
        obtain ⟨u, hu, eu⟩ := List.mem_map.mp (hmem.mpr (h3 ▸ List.mem_map_of_mem ((b v).mp h2)))
        exact ⟨u, hm u hu, (b u).mpr hu, eu⟩
    cases x : (inN (rt R) k (rW R)).testBit c <;> cases y : (inN (rf R) k (rW R)).testBit c
    · rfl
    · have := key.mpr y; rw [x] at this; exact this
    · have := key.mp x; rw [y] at this; exact this.symm
    · rfl

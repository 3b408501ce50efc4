/-! the reference's test ends, and tells rings -/
theorem nd_to {R : RD} {k : Nat} (hi : ∀ v w, k.testBit v = true → k.testBit w = true → rt R v = rt R w → v = w) : ∀ l : List Nat, l.Nodup → (∀ v, v ∈ l → k.testBit v = true) → (l.map (rt R)).Nodup
  | [], _, _ => List.nodup_nil
  | w :: l, h, hk => by
    obtain ⟨h1, h2⟩ := List.nodup_cons.mp h
    show (rt R w :: l.map (rt R)).Nodup
    refine List.nodup_cons.mpr ⟨fun z => ?_, nd_to hi l h2 (fun v hv => hk v (List.mem_cons_of_mem _ hv))⟩
    obtain ⟨v, hv, ev⟩ := List.mem_map.mp z
    have := hi v w (hk v (List.mem_cons_of_mem _ hv)) (hk w List.mem_cons_self) ev
    rw [this] at hv
    exact h1 hv
theorem orb_go {R : RD} (hR : WF R) {k u0 : Nat} (hk : k < 2 ^ rW R) (hij : ijP R k (rW R)) (heq : inN (rt R) k (rW R) = inN (rf R) k (rW R)) (h0 : k.testBit u0 = true) : ∀ (f : Nat) (acc : List Nat) (c : Nat), acc.length + f = 7 → ch R (rt R u0) acc c → (acc.map (rf R)).Nodup → (∀ v, v ∈ acc → k.testBit v = true ∧ rf R v ≠ rf R u0) → (∃ v, k.testBit v = true ∧ rt R v = c) → ∃ l, orb R k (rf R u0) f c = some l.length ∧ ch R c l (rf R u0) ∧ ((acc ++ l).map (rf R)).Nodup ∧ (∀ v, v ∈ acc ++ l → k.testBit v = true ∧ rf R v ≠ rf R u0) := by
  have inj := ij_inj hk hij
  intro f
  induction f with
  | zero =>
    intro acc c hl hc hn hv _
    have := nd_len (l' := List.range (rC R)) hn (fun x hx => by
      obtain ⟨w, hw, e⟩ := List.mem_map.mp hx
      rw [← e]
      exact List.mem_range.mpr (hR.2.2.1 w (ch_mem acc _ hc w hw)).1)
    rw [List.length_map, List.length_range] at this
    have := hR.1
    omega
  | succ f ih =>
    intro acc c hl hc hn hv hex
    by_cases e : c = rf R u0
    · refine ⟨[], ?_, e, by rw [List.append_nil]; exact hn, by rw [List.append_nil]; exact hv⟩
      simp only [orb]
      rw [if_pos e]; rfl
    · obtain ⟨v, hvk, hvc⟩ := hex
      have hb : (inN (rt R) k (rW R)).testBit c = true := (inN_b _).mpr ⟨v, tbW hk hvk, hvk, hvc⟩
      rw [heq] at hb
      obtain ⟨u, huW, huk, huc⟩ := (inN_b _).mp hb
      have eo : onF R k c (rW R) 0 = rt R u := on_u (fun x hx hxc _ => inj x u hx huk (Or.inr (hxc.trans huc.symm))) huk huc huW (rW R) 0 (by omega) (by omega)
      have hto := ch_to acc _ hc
      have hnA := (nd_map hn).1
      have hnt := nd_to (fun v w a b z => inj v w a b (Or.inl z)) acc hnA (fun v hv' => (hv v hv').1)
      have hn0 : (rt R u0 :: acc.map (rt R)).Nodup := by
        refine List.nodup_cons.mpr ⟨fun z => ?_, hnt⟩
        obtain ⟨x, hx, ex⟩ := List.mem_map.mp z
        have := inj x u0 (hv x hx).1 h0 (Or.inl ex)
        have h2 := (hv x hx).2
        rw [this] at h2
        exact h2 rfl
      rw [hto, List.nodup_append] at hn0
      have hcn : c ∉ acc.map (rf R) := fun z => hn0.2.2 c z c List.mem_cons_self rfl
      obtain ⟨l, h1, h2, h3, h4⟩ := ih (acc ++ [u]) (rt R u) (by rw [List.length_append]; simp; omega) ((ch_app acc _).mpr ⟨c, hc, huW, huc, rfl⟩) (by
        rw [List.map_append, List.nodup_append]
        refine ⟨hn, by simp, fun x hx y hy z => ?_⟩
        have hy : y ∈ [rf R u] := hy
        rw [List.mem_singleton.mp hy, huc] at z
        rw [z] at hx
        exact hcn hx) (fun x hx => by
        rcases List.mem_append.mp hx with z | z
        · exact hv x z
        · rw [List.mem_singleton.mp z]; exact ⟨huk, by rw [huc]; exact e⟩) ⟨u, huk, rfl⟩
      refine ⟨u :: l, ?_, ⟨huW, huc, h2⟩, ?_, ?_⟩
      · simp only [orb]
        rw [if_neg e, eo, h1]; rfl
      · rw [List.append_assoc] at h3; exact h3
      · rw [List.append_assoc] at h4; exact h4
theorem ring_end {R : RD} (hR : WF R) {k : Nat} (hk : k < 2 ^ rW R) (hk0 : k ≠ 0) (hij : ijP R k (rW R)) (heq : inN (rt R) k (rW R) = inN (rf R) k (rW R)) : ∃ j, orb R k (rf R (lsN k (rW R))) 7 (rt R (lsN k (rW R))) = some j ∧ (j + 1 = popc 10 k ↔ Rng R k) := by
  have inj := ij_inj hk hij
  have hk10 : k < 1024 := Nat.lt_of_lt_of_le hk (Nat.pow_le_pow_right (n := 2) (j := 10) (by omega) hR.2.1)
  obtain ⟨_, hls⟩ := ls_ok (rW R) (ex_bit hk hk0)
  generalize lsN k (rW R) = u0 at *
  obtain ⟨l, h1, h2, h3, h4⟩ := orb_go hR hk hij heq hls 7 [] (rt R u0) rfl rfl List.nodup_nil (fun v hv => absurd hv List.not_mem_nil) ⟨u0, hls, rfl⟩
  rw [List.nil_append] at h3 h4
  have huW := tbW hk hls
  have hcy : cyc R (l ++ [u0]) := by
    refine ⟨by simp, ⟨rt R u0, (ch_app l _).mpr ⟨rf R u0, h2, huW, rfl, rfl⟩⟩, ?_⟩
    rw [List.map_append, List.nodup_append]
    refine ⟨h3, by simp, fun x hx y hy z => ?_⟩
    have hy : y ∈ [rf R u0] := hy
    rw [List.mem_singleton.mp hy] at z
    obtain ⟨v, hv, ev⟩ := List.mem_map.mp hx
    exact (h4 v hv).2 (ev.trans z)
  have hnL := (nd_map hcy.2.2).1
  have hkL : ∀ v, v ∈ l ++ [u0] → k.testBit v = true := fun v hv => by
    rcases List.mem_append.mp hv with z | z
    · exact (h4 v z).1
    · rw [List.mem_singleton.mp z]; exact hls
  have hW10 := hR.2.1
  refine ⟨l.length, h1, fun hp => ⟨l ++ [u0], hcy, ?_⟩, fun hr => ?_⟩
  · have hsub := nd_sub (l' := (List.range 10).filter (fun w => k.testBit w)) hnL (fun v hv => List.mem_filter.mpr ⟨List.mem_range.mpr (by have := tbW hk (hkL v hv); omega), hkL v hv⟩) (by
      rw [fil_len (k := k) (fun _ => rfl), ← pop_sb hk10, ← hp, List.length_append]; simp)
    refine Nat.eq_of_testBit_eq (fun i => ?_)
    have key : k.testBit i = true ↔ (bts (l ++ [u0])).testBit i = true := by
      rw [bts_b]
      exact ⟨fun z => hsub i (List.mem_filter.mpr ⟨List.mem_range.mpr (by have := tbW hk z; omega), z⟩), fun z => hkL i z⟩
    cases x : k.testBit i <;> cases y : (bts (l ++ [u0])).testBit i
    · rfl
    · have := key.mpr y; rw [x] at this; exact this
    · have := key.mp x; rw [y] at this; exact this.symm
    · rfl
  · obtain ⟨l2, hc2, e2⟩ := hr
    have hu2 : u0 ∈ l2 := (bts_b l2).mp (e2 ▸ hls)
    obtain ⟨as, bs, ea⟩ := List.append_of_mem hu2
    have hb2 : ∀ v, k.testBit v = true ↔ v ∈ l2 := fun v => by rw [e2]; exact bts_b l2
    have hn2 := (nd_map hc2.2.2)
    have hlen2 : popc 10 k = l2.length := by
      rw [e2]
      refine pop_bts hn2.1 (fun w hw => ?_)
      obtain ⟨a, haa⟩ := hc2.2.1
      have := ch_mem l2 a haa w hw
      omega
    have e3 : l2 = (as ++ [u0]) ++ bs := by rw [ea]; simp
    rw [e3] at hc2
    have hc3 := cyc_rot hc2
    have e4 : bs ++ (as ++ [u0]) = (bs ++ as) ++ [u0] := by simp
    rw [e4] at hc3
    obtain ⟨_, ⟨a, hca⟩, hnn⟩ := hc3
    obtain ⟨m, hm1, hm2⟩ := (ch_app (bs ++ as) a).mp hca
    have em : rf R u0 = m := hm2.2.1
    have ea2 : rt R u0 = a := hm2.2.2
    subst em ea2
    rw [List.map_append, List.nodup_append] at hnn
    have := ch_det (k := k) (fun v w a b z => inj v w a b (Or.inr z)) l (bs ++ as) _ h2 hm1 h4 (fun v hv => ⟨(hb2 v).mpr (by rw [e3]; rw [List.mem_append] at hv; rcases hv with z | z <;> simp [z]), fun z => hnn.2.2 (rf R v) (List.mem_map_of_mem hv) (rf R u0) List.mem_cons_self z⟩)
    rw [hlen2, this, e3]
    simp only [List.length_append, List.length_cons, List.length_nil]
    omega
/-! times and lags of a ring -/
def tN (R : RD) (m w : Nat) : Nat := (tmO R (nI m) w).toInt.toNat
theorem tN_ok {R : RD} (hR : WF R) {m w : Nat} (hw : w < rW R) (hm : m ≤ 9) : tmO R (nI m) w = nI (tN R m w) ∧ tN R m w ≤ 999 := by
  have h := tmO_rg hR hw hm
  refine ⟨ge_nI h.1, ?_⟩
  unfold tN
  have := h.2
  omega
def rgT (R : RD) (m k : Nat) : Nat := sbN (tN R m) k (rW R)
def rgL (R : RD) (k : Nat) : Nat := sbN (rl R) k (rW R)
theorem sb_le {f : Nat → Nat} {k B : Nat} : ∀ n, (∀ w, w < n → f w ≤ B) → sbN f k n ≤ n * B
  | 0, _ => Nat.zero_le _
  | n + 1, h => by
    have h1 := sb_le (k := k) n (fun w hw => h w (by omega))
    have h2 := h n (by omega)
    simp only [sbN]
    rw [Nat.succ_mul]
    split <;> omega
theorem rgT_le {R : RD} (hR : WF R) {m k : Nat} (hm : m ≤ 9) : rgT R m k ≤ 9990 := by
  have h := sb_le (f := tN R m) (k := k) (rW R) (fun w hw => (tN_ok hR hw hm).2)
  have := hR.2.1
  unfold rgT
  omega
theorem rgL_le {R : RD} (hR : WF R) {k : Nat} : rgL R k ≤ 20 := by
  have h := sb_le (f := rl R) (k := k) (rW R) (fun w hw => (hR.2.2.1 w hw).2.2.1)
  have := hR.2.1
  unfold rgL
  omega
theorem ch_up {R : RD} (hR : WF R) {b : Nat} : ∀ (l : List Nat) (a : Nat), ch R a l b → lsm (rl R) l = 0 → a + l.length ≤ b
  | [], a, h, _ => by have h : a = b := h; simp [h]
  | w :: l, a, h, hl => by
    have hl : lsm (rl R) l + rl R w = 0 := hl
    have := ch_up hR l _ h.2.2 (by omega)
    have := (hR.2.2.1 w h.1).2.2.2 (by omega)
    have := h.2.1
    simp only [List.length_cons]
    omega
theorem rgL_pos {R : RD} (hR : WF R) {k : Nat} (h : Rng R k) : 1 ≤ rgL R k := by
  obtain ⟨l, ⟨h0, ⟨a, ha⟩, hn⟩, e⟩ := h
  unfold rgL
  rw [e, sb_bts l (nd_map hn).1 (ch_mem l a ha)]
  rcases Nat.eq_zero_or_pos (lsm (rl R) l) with z | z
  · have := ch_up hR l a ha z
    have : l.length ≠ 0 := fun y => h0 (List.eq_nil_of_length_eq_zero y)
    omega
  · exact z

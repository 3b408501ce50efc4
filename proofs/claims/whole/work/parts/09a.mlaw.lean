/-! the reference's laws: a plain stack machine without jumps -/
theorem nI_m2 (n : Nat) : nI (n + 2) + (-2) = nI n := by
  rw [← nI_add n 2, Int32.add_assoc]
  have : nI 2 + (-2 : Int32) = 0 := by decide
  rw [this, Int32.add_zero]
def clM (v : Int64) : Int32 := if lg_cmp v 1000000 ≤ 0 then (if 0 ≤ lg_cmp v (-1000000) then v.toInt32 else (-1000000 : Int64).toInt32) else (1000000 : Int64).toInt32
theorem clM_eq (v : Int64) : clM v = clL v := by
  unfold clM clL
  rw [mnL_e]
  by_cases h : lg_cmp v 1000000 ≤ 0
  · rw [if_pos h, if_pos h, mxL_e]
    by_cases h2 : 0 ≤ lg_cmp v (-1000000)
    · rw [if_pos h2, if_pos h2]
    · rw [if_neg h2, if_neg h2]
  · rw [if_neg h, if_neg h]
    decide
theorem wide_add {a b : Int32} (ha : rg a (-1000000) 1000000) (hb : rg b (-1000000) 1000000) : a.toInt64 + b.toInt64 = (a + b).toInt64 := by
  apply Int64.toInt_inj.mp
  unfold rg at ha hb
  rw [Jvm.Kit.i64_add (by rw [Int32.toInt_toInt64, Int32.toInt_toInt64]; omega) (by rw [Int32.toInt_toInt64, Int32.toInt_toInt64]; omega), Int32.toInt_toInt64, Int32.toInt_toInt64, Int32.toInt_toInt64, Jvm.Kit.i32_add (by omega) (by omega)]
theorem wide_sub {a b : Int32} (ha : rg a (-1000000) 1000000) (hb : rg b (-1000000) 1000000) : a.toInt64 - b.toInt64 = (a - b).toInt64 := by
  apply Int64.toInt_inj.mp
  unfold rg at ha hb
  rw [Jvm.Kit.i64_sub (by rw [Int32.toInt_toInt64, Int32.toInt_toInt64]; omega) (by rw [Int32.toInt_toInt64, Int32.toInt_toInt64]; omega), Int32.toInt_toInt64, Int32.toInt_toInt64, Int32.toInt_toInt64, Jvm.Kit.i32_sub (by omega) (by omega)]
def opL : List (Nat × Nat) := [(3000, 2), (3001, 3), (3002, 4), (3003, 5), (3004, 6), (3005, 7), (3007, 8), (3008, 9)]
section MLaw
variable {d : Nat} {I : MI} {L : ML}
theorem c_M_between {k o : Nat} {l r : Int32} {K : Int32 → MI → ML → Prop} (hd : 1 ≤ d) (ho : (k, o) ∈ opL) (hl : rg l (-1000000) 1000000) (hr : rg r (-1000000) 1000000) (h : K (of2 o l r) I L) : CI d m_M_between [vI (nI k), vI l, vI r] I L K := by
  refine toCI (n := 0) hd (r_M_between_0 ?_)
  have clm : ∀ v : Int64, K (clM v) I L → ((lg_cmp v (1000000 : Int64)) ≤ 0 → ((0 ≤ (lg_cmp v (-1000000 : Int64)) → (∃ x, some (vI v.toInt32) = some (vI x) ∧ K x I L)) ∧ (¬ (0 ≤ (lg_cmp v (-1000000 : Int64))) → (∃ x, some (vI ((-1000000 : Int64).toInt32)) = some (vI x) ∧ K x I L)))) ∧ (¬ ((lg_cmp v (1000000 : Int64)) ≤ 0) → (∃ x, some (vI ((1000000 : Int64).toInt32)) = some (vI x) ∧ K x I L)) := by
    intro v hv
    unfold clM at hv
    refine ⟨fun q => ⟨fun q2 => ⟨_, rfl, ?_⟩, fun q2 => ⟨_, rfl, ?_⟩⟩, fun q => ⟨_, rfl, ?_⟩⟩
    · rw [if_pos q, if_pos q2] at hv; exact hv
    · rw [if_pos q, if_neg q2] at hv; exact hv
    · rw [if_neg q] at hv; exact hv
  simp only [opL, List.mem_cons, List.not_mem_nil, or_false, Prod.mk.injEq] at ho
  have nn : ∀ a b : Nat, a < 5000 → b < 5000 → a ≠ b → ¬ nI a = nI b := fun a b ha hb hn e => hn ((nI_eq (by omega) (by omega)).mp e)
  rcases ho with ⟨rfl, rfl⟩ | ⟨rfl, rfl⟩ | ⟨rfl, rfl⟩ | ⟨rfl, rfl⟩ | ⟨rfl, rfl⟩ | ⟨rfl, rfl⟩ | ⟨rfl, rfl⟩ | ⟨rfl, rfl⟩
  · refine ⟨fun q => absurd q (by decide), fun q => absurd q (by decide), fun q => absurd q (by decide), fun q => absurd q (by decide), fun q => absurd q (by decide), fun q => absurd q (by decide), fun _ => ⟨fun q => absurd (by decide) q, fun _ => ?_⟩⟩
    refine clm _ ?_
    rw [clM_eq, wide_add hl hr]
    exact h
  · refine ⟨fun q => absurd q (by decide), fun q => absurd q (by decide), fun q => absurd q (by decide), fun q => absurd q (by decide), fun q => absurd q (by decide), fun q => absurd q (by decide), fun _ => ⟨fun _ => ⟨fun q => absurd (by decide) q, fun _ => ?_⟩, fun q => absurd (by decide) q⟩⟩
    refine clm _ ?_
    rw [clM_eq, wide_sub hl hr]
    exact h
  · refine ⟨fun q => absurd q (by decide), fun q => absurd q (by decide), fun q => absurd q (by decide), fun q => absurd q (by decide), fun q => absurd q (by decide), fun q => absurd q (by decide), fun _ => ⟨fun _ => ⟨fun _ => ?_, fun q => absurd (by decide) q⟩, fun q => absurd (by decide) q⟩⟩
    refine clm _ ?_
    rw [clM_eq]
    exact h
  · refine ⟨fun _ => ⟨fun q => ⟨_, rfl, ?_⟩, fun q => ⟨_, rfl, ?_⟩⟩, fun q => absurd q (by decide), fun q => absurd q (by decide), fun q => absurd q (by decide), fun q => absurd q (by decide), fun q => absurd q (by decide), fun q => absurd rfl q.1⟩
    · simp only [of2] at h; rw [if_neg q] at h; exact h
    · simp only [of2] at h; rw [if_pos (Classical.not_not.mp q)] at h; exact h
  · refine ⟨fun q => absurd q (by decide), fun _ => ⟨fun q => ⟨_, rfl, ?_⟩, fun q => ⟨_, rfl, ?_⟩⟩, fun q => absurd q (by decide), fun q => absurd q (by decide), fun q => absurd q (by decide), fun q => absurd q (by decide), fun q => absurd rfl q.2.1⟩
    · simp only [of2] at h; rw [if_neg (Int32.not_lt.mpr q)] at h; exact h
    · simp only [of2] at h; rw [if_pos (Int32.not_le.mp q)] at h; exact h
  · refine ⟨fun q => absurd q (by decide), fun q => absurd q (by decide), fun _ => ⟨fun q => ⟨_, rfl, ?_⟩, fun q => ⟨_, rfl, ?_⟩⟩, fun q => absurd q (by decide), fun q => absurd q (by decide), fun q => absurd q (by decide), fun q => absurd rfl q.2.2.1⟩
    · simp only [of2] at h; rw [if_neg (Int32.not_lt.mpr q)] at h; exact h
    · simp only [of2] at h; rw [if_pos (Int32.not_le.mp q)] at h; exact h
  · exact ⟨fun q => absurd q (by decide), fun q => absurd q (by decide), fun q => absurd q (by decide), fun q => absurd q (by decide), fun _ => ⟨_, rfl, h⟩, fun q => absurd q (by decide), fun q => absurd rfl q.2.2.2.2.1⟩
  · exact ⟨fun q => absurd q (by decide), fun q => absurd q (by decide), fun q => absurd q (by decide), fun q => absurd q (by decide), fun q => absurd q (by decide), fun _ => ⟨_, rfl, h⟩, fun q => absurd rfl q.2.2.2.2.2⟩
end MLaw
/-- one code of the reference's -/
def mst (wd : Nat → Int32) (k : Nat) (s s' : List Int32) : Prop :=
  (k < 1000 ∧ s' = nI k :: s) ∨ (∃ j, j < 6 ∧ k = 1000 + j ∧ s' = wd j :: s) ∨ (k = 3006 ∧ ∃ x r, s = x :: r ∧ s' = (1 - x) :: r) ∨ (k = 3009 ∧ ∃ c t e r, s = e :: t :: c :: r ∧ s' = (if c = 1 then t else e) :: r) ∨
  (∃ o l r q, (k, o) ∈ opL ∧ s = r :: l :: q ∧ rg l (-1000000) 1000000 ∧ rg r (-1000000) 1000000 ∧ s' = of2 o l r :: q)
def mgo (wd : Nat → Int32) : List Nat → List Int32 → List Int32 → Prop
  | [], s, s' => s = s'
  | k :: ks, s, s' => ∃ s1, mst wd k s s1 ∧ mgo wd ks s1 s'
theorem mgo_app {wd : Nat → Int32} : ∀ {ks ks' : List Nat} {s s1 s2 : List Int32}, mgo wd ks s s1 → mgo wd ks' s1 s2 → mgo wd (ks ++ ks') s s2
  | [], _, _, _, _, h1, h2 => by cases h1; exact h2
  | _ :: _, _, _, _, _, ⟨s1, a, b⟩, h2 => ⟨s1, a, mgo_app b h2⟩
def mlS : Nat → Nat → Prop := fun r a => r = 721 ∧ a = 0
section MLaw2
variable {d : Nat} {I : MI} {L : ML}
theorem c_M_reckons {j b : Nat} {cs : List Nat} {v : Int32} {K : Int32 → MI → ML → Prop} (hd : 2 ≤ d) (hj : j < 2) (h6 : I 706 0 (6 + j) = nI b) (h8 : I 706 0 (8 + j) = nI cs.length) (hb : b + cs.length ≤ 900) (hc : ∀ q, q < cs.length → I 706 0 (284 + b + q) = nI (cs.getD q 0)) (hg : mgo (I 722 0) cs [] [v]) (h : ∀ I', Same mlS I I' → K v I' L) : CI d m_M_reckons [vR 704 0, vI (nI j)] I L K := by
  refine toCI (n := 1) hd (r_M_reckons_0 ?_)
  have key : ∀ (l : List Nat) (t : Nat) (s : List Int32) (I1 : MI), cs.drop t = l → t ≤ cs.length → s.length ≤ t → mgo (I 722 0) l s [v] → stkA (I1 721 0) s → Same mlS I I1 → XX (1 + 1) m_M_reckons (fun r I' L' => ∃ x, r = some (vI x) ∧ K x I' L') 4 [vR 704 0, vI (nI j), vI (nI s.length), vI (nI t), vD] [] I1 L := by
    intro l
    induction l with
    | nil =>
      intro t s I1 hl ht hst hgo hs hS
      have n6 : I1 706 0 = I 706 0 := hS 706 0 (fun q => absurd q.1 (by decide))
      have e8 : (8 : Int32) + nI j = nI (8 + j) := nI_add 8 j
      have htl : t = cs.length := by have := List.drop_eq_nil_iff.mp hl; omega
      refine r_M_reckons_4 ?_
      rw [e8, cl_n (by omega), n6, h8]
      refine ⟨vin (by omega) (by omega), fun _ => ⟨_, rfl, ?_⟩, fun q => absurd (nI_le (by omega) (by omega)) q⟩
      have hgo : s = [v] := hgo
      subst hgo
      have hs1 : I1 721 0 0 = v := hs.1
      rw [hs1]
      exact h I1 hS
    | cons k l ih =>
      intro t s I1 hl ht hst hgo hs hS
      obtain ⟨s1, hm, hgo⟩ := hgo
      obtain ⟨g1, g2, g3⟩ := drop_hd hl
      have n6 : I1 706 0 = I 706 0 := hS 706 0 (fun q => absurd q.1 (by decide))
      have n7 : I1 722 0 = I 722 0 := hS 722 0 (fun q => absurd q.1 (by decide))
      have e8 : (8 : Int32) + nI j = nI (8 + j) := nI_add 8 j
      have e6 : (6 : Int32) + nI j = nI (6 + j) := nI_add 6 j
      have e284 : ((284 : Int32) + nI b) + nI t = nI (284 + b + t) := by
        have : (284 : Int32) + nI b = nI (284 + b) := nI_add 284 b
        rw [this, nI_add]
      have ek : I 706 0 (284 + b + t) = nI k := by rw [hc t g3]; simp [g1]
      refine r_M_reckons_4 ?_
      rw [e8, e6, cl_n (by omega), cl_n (j := 6 + j) (by omega), n6, h8, h6, e284, cl_n (by omega), ek]
      refine ⟨vin (by omega) (by omega), fun q => absurd q (nI_ge g3 (by omega)), fun _ => ⟨vin (by omega) (by omega), vin (by omega) (by omega), ?_⟩⟩
      have go : ∀ (J : MI), Same mlS I J → stkA (J 721 0) s1 → s1.length ≤ t + 1 → XX (1 + 1) m_M_reckons (fun r I' L' => ∃ x, r = some (vI x) ∧ K x I' L') 4 [vR 704 0, vI (nI j), vI (nI s1.length), vI (nI t + 1), vD] [] J L := by
        intro J hJ hsJ hlen
        rw [nI_1]
        exact ih (t + 1) s1 J g2 g3 hlen hgo hsJ hJ
      have upk : ∀ (x : Int32) (r : List Int32), stkA (I1 721 0) r → stkA ((ui I1 721 0 r.length x) 721 0) (x :: r) := fun x r hr => ⟨ui_s, stkA_keep (fun q hq => by rw [ui_k (by omega)]) hr⟩
      rcases hm with ⟨hk, rfl⟩ | ⟨jj, hjj, rfl, rfl⟩ | ⟨rfl, x, r, rfl, rfl⟩ | ⟨rfl, c, tt, ee, r, rfl, rfl⟩ | ⟨o, lo, r, q, hop, rfl, hl1, hr1, rfl⟩
      · refine ⟨fun q => absurd q (nle_c (m := 3000) (by omega) (by omega)), fun _ => ⟨fun q => absurd q (nle_c (m := 1000) hk (by omega)), fun _ => ⟨vin (by omega) (by omega), ?_⟩⟩⟩
        rw [cl_n (by omega)]
        have := go (ui I1 721 0 s.length (nI k)) (hS.ui ⟨rfl, rfl⟩) (upk _ _ hs) (by simp; omega)
        rw [nI_1]
        exact this
      · refine ⟨fun q => absurd q (nle_c (m := 3000) (by omega) (by omega)), fun _ => ⟨fun _ => ?_, fun q => absurd (nI_le (show 1000 ≤ 1000 + jj by omega) (by omega)) q⟩⟩
        have e1 : nI (1000 + jj) - (1000 : Int32) = nI jj := by
          have := pk_sub (a := 1000 + jj) (b := 1000) (by omega)
          rw [show 1000 + jj - 1000 = jj by omega] at this
          exact this
        rw [e1, cl_n (j := s.length) (by omega), cl_n (by omega), n7]
        refine ⟨vin hjj (by omega), vin (by omega) (by omega), ?_⟩
        have := go (ui I1 721 0 s.length (I 722 0 jj)) (hS.ui ⟨rfl, rfl⟩) (upk _ _ hs) (by simp; omega)
        rw [nI_1 s.length]
        exact this
      · have e1 : nI (x :: r).length - (1 : Int32) = nI r.length := nI_pred _
        have hl : r.length < 900 := by simp at hst; omega
        rw [e1, cl_n (by omega)]
        refine ⟨fun _ => ⟨fun q => absurd rfl q, fun _ => ⟨vin hl (by omega), vin hl (by omega), ?_⟩⟩, fun q => absurd (by decide) q⟩
        rw [hs.1]
        exact go (ui I1 721 0 r.length (1 - x)) (hS.ui ⟨rfl, rfl⟩) (upk _ _ hs.2) (by simp at hst ⊢; omega)
      · have e1 : nI (ee :: tt :: c :: r).length + (-2) = nI (r.length + 1) := nI_m2 (r.length + 1)
        have e2 : nI (r.length + 1) - (1 : Int32) = nI r.length := nI_pred _
        have e3 : nI (r.length + 1) + (1 : Int32) = nI (r.length + 2) := nI_1 _
        simp only [List.length_cons] at hst
        rw [e1, e2, e3, cl_n (by omega), cl_n (j := r.length + 2) (by omega), cl_n (j := r.length + 1) (by omega)]
        obtain ⟨h1, h2, h3, h4⟩ := hs
        have h1 : I1 721 0 (r.length + 2) = ee := h1
        have h2 : I1 721 0 (r.length + 1) = tt := h2
        have h3 : I1 721 0 r.length = c := h3
        refine ⟨fun _ => ⟨fun _ => ⟨fun q => absurd rfl q, fun _ => ⟨vin (by omega) (by omega), fun q => ⟨vin (by omega) (by omega), vin (by omega) (by omega), ?_⟩, fun q => ⟨vin (by omega) (by omega), vin (by omega) (by omega), ?_⟩⟩⟩, fun q => absurd (by decide) q⟩, fun q => absurd (by decide) q⟩
        · rw [h3] at q
          rw [h1]
          rw [if_neg q] at go
          exact go (ui I1 721 0 r.length ee) (hS.ui ⟨rfl, rfl⟩) (upk _ _ h4) (by simp; omega)
        · rw [h3] at q
          rw [h2]
          rw [if_pos (Classical.not_not.mp q)] at go
          exact go (ui I1 721 0 r.length tt) (hS.ui ⟨rfl, rfl⟩) (upk _ _ h4) (by simp; omega)
      · have e1 : nI (r :: lo :: q).length + (-1) = nI (q.length + 1) := pk_m1 _
        have e2 : nI (q.length + 1) - (1 : Int32) = nI q.length := nI_pred _
        simp only [List.length_cons] at hst
        rw [e1, e2, cl_n (by omega), cl_n (j := q.length + 1) (by omega)]
        obtain ⟨h1, h2, h4⟩ := hs
        have h1 : I1 721 0 (q.length + 1) = r := h1
        have h2 : I1 721 0 q.length = lo := h2
        rw [h1, h2]
        have hk3 : 3000 ≤ k ∧ k < 4000 ∧ k ≠ 3006 ∧ k ≠ 3009 := by
          simp only [opL, List.mem_cons, List.not_mem_nil, or_false, Prod.mk.injEq] at hop
          omega
        refine ⟨fun _ => ⟨fun _ => ⟨fun _ => ⟨vin (by omega) (by omega), vin (by omega) (by omega), c_M_between (by omega) hop hl1 hr1 ⟨vin (by omega) (by omega), ?_⟩⟩, fun z => absurd ((nI_eq (b := 3009) (by omega) (by omega)).mp (Classical.not_not.mp z)) hk3.2.2.2⟩, fun z => absurd ((nI_eq (b := 3006) (by omega) (by omega)).mp (Classical.not_not.mp z)) hk3.2.2.1⟩, fun z => absurd (nI_le hk3.1 (by omega)) z⟩
        exact go (ui I1 721 0 q.length (of2 o lo r)) (hS.ui ⟨rfl, rfl⟩) (upk _ _ h4) (by simp; omega)
  exact key cs 0 [] I (by simp) (by omega) (by simp) hg trivial Same.rf
end MLaw2

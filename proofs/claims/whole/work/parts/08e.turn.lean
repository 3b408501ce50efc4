/-! Going.turn is a round -/
def restL (R : RD) (c : Nat) : List Nat := ((List.range (rC R)).drop c).flatMap (wts R)
theorem restL_c {R : RD} {c : Nat} (h : c < rC R) : restL R c = wts R c ++ restL R (c + 1) := by
  unfold restL
  rw [List.drop_eq_getElem_cons (by simpa using h), List.flatMap_cons, List.getElem_range]
theorem restL_gt {R : RD} {c w : Nat} (h : w ∈ restL R c) : w < rW R ∧ c ≤ rt R w := by
  obtain ⟨k, hk, hw⟩ := List.mem_flatMap.mp h
  obtain ⟨h1, h2⟩ := wts_mem.mp hw
  obtain ⟨j, hj⟩ := List.getElem?_of_mem hk
  rw [List.getElem?_drop] at hj
  have := List.getElem?_eq_some_iff.mp hj
  obtain ⟨z1, z2⟩ := this
  rw [List.getElem_range] at z2
  exact ⟨h1, by omega⟩
theorem drop_hd {α : Type} {l : List α} {p : Nat} {w : α} {r : List α} (h : l.drop p = w :: r) : l[p]? = some w ∧ l.drop (p + 1) = r ∧ p < l.length := by
  have h0 : (l.drop p)[0]? = some w := by rw [h]; rfl
  rw [List.getElem?_drop] at h0
  refine ⟨by simpa using h0, ?_, (List.getElem?_eq_some_iff.mp h0).1⟩
  rw [← List.drop_drop, h]
  rfl
def tuS (i : Nat) : Nat → Nat → Prop := fun r a => goS r a ∨ stS i r a
section Turn
variable {d i : Nat} {I0 : MI} {L : ML} {R : RD} {s : SA} {m : Nat} {out : Int32}
/-- what holds ahead of coach c -/
def tuA (I0 I : MI) (R : RD) (i m : Nat) (s : SA) (out : Int32) (c : Nat) : Prop := Same goS I0 I ∧ GoA I R ∧ tmA I R m (rW R) ∧ (∀ k, k < c → I 326 0 k = fsh R s out (k + 1) k ∧ I 327 0 k = csO R s out k)
theorem goS_road {r k : Nat} (h1 : 128 ≤ r) (h2 : r ≤ 135) : ¬ goS r k := fun q => by rcases q.1 with z | z | z | z | z | z | z | z | z <;> omega
theorem goS_st {r k : Nat} (h1 : 256 ≤ r) (h2 : r ≤ 259) : ¬ goS r k := fun q => by rcases q.1 with z | z | z | z | z | z | z | z | z <;> omega
theorem StA_go {I I' : MI} {j : Nat} {s : SA} (h : StA I j s) (hs : Same goS I I') : StA I' j s := h.same hs (goS_st (by omega) (by omega)) (goS_st (by omega) (by omega)) (goS_st (by omega) (by omega)) (goS_st (by omega) (by omega))
theorem GoA_of {I I' : MI} (h : GoA I R) (ho : I' 325 0 = I 325 0) (hf : ∀ c, rC R ≤ c → c < 6 → I' 326 0 c = I 326 0 c) (h8 : I' 320 0 8 = I 320 0 8) (h3 : I' 323 0 = I 323 0) (h4 : I' 324 0 = I 324 0) (hk : knA I' R) : GoA I' R := by
  refine ⟨fun n hn => by rw [ho]; exact h.1 n hn, fun c h1 h2 => by rw [hf c h1 h2]; exact h.2.1 c h1 h2, ?_, hk⟩
  rw [h8]
  rcases h.2.2.1 with z | ⟨m, z1, z2, z3⟩
  · exact Or.inl z
  · exact Or.inr ⟨m, z1, z2, fun w hw => by rw [h3, h4]; exact z3 w hw⟩
theorem l_turn {Q : QT} (hd : 4 ≤ d) (hR : WF R) (hA0 : RoadA I0 0 R) (hs0 : StA I0 i s) (hm : m ≤ 9) (em : s.2.2.2.1 = nI m) {hb : Nat} (hh : hb ≤ 1000) (hSR : SR R s hb)
    (hk : ∀ I', tuA I0 I' R i m s out (rC R) → CI d m_St_passTo [vR 256 i, vR 326 0] I' L (fun x5 I3 L4 => (x5 = 0 ∨ x5 = 1) ∧ Q (some (vI x5)) I3 L4)) :
    ∀ (n c p : Nat) (I : MI), c + n = rC R → p ≤ rW R → (ordL R).drop p = restL R c → tuA I0 I R i m s out c → XX (d + 1) m_Go_turn Q 13 [vR 320 0, vR 256 i, vI out, vI (nI p), vI (nI c), vD, vD, vD] [] I L := by
  have hC := hR.1
  have hW := hR.2.1
  have hlen := ordL_len hR
  intro n
  induction n with
  | zero =>
    intro c p I hc hpl hp hI
    have hA := hA0.same hI.1 (fun r h1 h2 => goS_road h1 h2)
    have e : c = rC R := by omega
    subst e
    refine r_Go_turn_13 ⟨fun _ => hk I hI, fun q => ?_⟩
    rw [hA.1] at q
    exact absurd (nI_le (Nat.le_refl (rC R)) (by omega)) q
  | succ n ih =>
    intro c p I hc hpl hp hI
    have hcC : c < rC R := by omega
    have hA := hA0.same hI.1 (fun r h1 h2 => goS_road h1 h2)
    have hv6 : vp_in (nI c) 6 := vin (by omega) (by omega)
    refine r_Go_turn_13 ⟨fun q => ?_, fun _ => ⟨fun q => absurd q (nle_c (m := 6) (by omega) (by omega)), fun _ => ⟨hv6, ?_⟩⟩⟩
    · rw [hA.1] at q
      exact absurd q (nI_ge hcC (by omega))
    rw [cl_n (by omega)]
    -- the waits of coach c
    have inner : ∀ (l : List Nat) (p : Nat) (b : Int32 × Int32) (J : MI), (∀ w ∈ l, w ∈ wts R c) → p ≤ rW R → (ordL R).drop p = l ++ restL R (c + 1) → l.foldl (bst R (nI m) out (fsh R s out c) s.1 s.2.1) b = best R (nI m) out (fsh R s out c) s.1 s.2.1 c → rg b.1 0 101200 → tuA I0 J R i m s out c → J 327 0 c = b.2 → XX (d + 1) m_Go_turn Q 43 [vR 320 0, vR 256 i, vI out, vI (nI p), vI (nI c), vI b.1, vD, vD] [] J L := by
      intro l
      induction l with
      | nil =>
        intro p b J _ hpl hp hf hbr hJ hJc
        have hAJ := hA0.same hJ.1 (fun r h1 h2 => goS_road h1 h2)
        have hsJ := StA_go hs0 hJ.1
        have hb1 : b = best R (nI m) out (fsh R s out c) s.1 s.2.1 c := hf
        have leave : ∀ (J1 : MI), J1 = J → CI d m_St_heldOf [vR 256 i, vI (nI c)] J1 L (fun x13 I11 L12 => CI d m_Math_min_II [vI 100000, vI (b.1 + x13)] I11 L12 (fun x16 I14 L15 => (vp_in (nI c) 6) ∧ (XX (d + 1) m_Go_turn Q 13 [vR 320 0, vR 256 i, vI out, vI (nI p), vI (nI c + 1), vD, vD, vD] [] (ui I14 326 0 (nI c).toNatClampNeg x16) L15))) := by
          intro J1 e1
          subst e1
          refine c_St_heldOf (by omega) (by omega) (c_min (by omega) ⟨hv6, ?_⟩)
          rw [cl_n (by omega), nI_1, hsJ.2.2.1 c (by omega)]
          refine ih (c + 1) p _ (by omega) hpl (by simpa using hp) ⟨hJ.1.ui ⟨by simp, rfl⟩, GoA_of hJ.2.1 (by rw [ui_off (by simp)]) (fun k h1 h2 => by rw [ui_k (by omega)]) (by rw [ui_r (by decide)]) (by rw [ui_off (by simp)]) (by rw [ui_off (by simp)]) (fun w hw k hk => by rw [ui_r (by decide)]; exact hJ.2.1.2.2.2 w hw k hk), fun w hw => by rw [ui_r (by decide), ui_r (by decide)]; exact hJ.2.2.1 w hw, fun k hk => ?_⟩
          by_cases e : k = c
          · subst e
            refine ⟨?_, ?_⟩
            · rw [ui_s, fsh_at, em, hb1]
            · rw [ui_r (by decide), hJc, hb1]
              unfold csO
              rw [em]
          · obtain ⟨z1, z2⟩ := hJ.2.2.2 k (by omega)
            exact ⟨by rw [ui_k e]; exact z1, by rw [ui_r (by decide)]; exact z2⟩
        have hp : (ordL R).drop p = restL R (c + 1) := by simpa using hp
        refine r_Go_turn_43 ⟨fun _ => leave J rfl, fun q1 => ⟨fun _ => leave J rfl, fun q2 => ?_⟩⟩
        rw [hAJ.2.1] at q1
        have hpW : p < rW R := by
          rcases Nat.lt_or_ge p (rW R) with z | z
          · exact z
          · exact absurd (nI_le z (by omega)) q1
        have hw0 : ∃ w r, restL R (c + 1) = w :: r := by
          cases hr : restL R (c + 1) with
          | nil =>
            rw [hr] at hp
            have := List.drop_eq_nil_iff.mp hp
            omega
          | cons w r => exact ⟨w, r, rfl⟩
        obtain ⟨w, r, hwr⟩ := hw0
        rw [hwr] at hp
        obtain ⟨g1, g2, g3⟩ := drop_hd hp
        obtain ⟨hwR, hwc⟩ := restL_gt (show w ∈ restL R (c + 1) by rw [hwr]; exact List.mem_cons_self)
        have eo : J 325 0 p = nI w := by rw [hJ.2.1.1 p hpW]; simp [g1]
        refine ⟨vin (by omega) (by omega), ?_⟩
        rw [cl_n (by omega), eo]
        refine c_Road_toOf (by omega) (by omega) ⟨fun _ => leave J rfl, fun q => ?_⟩
        rw [(hAJ.2.2.2.2.2.1 w hwR).2.1] at q
        have hb2 := (hR.2.2.1 w hwR).2.1
        have := (nI_eq (by omega) (by omega)).mp (Classical.not_not.mp q)
        omega
      | cons w l ihl =>
        intro p b J hmem hpl hp hf hbr hJ hJc
        have hAJ := hA0.same hJ.1 (fun r h1 h2 => goS_road h1 h2)
        have hsJ := StA_go hs0 hJ.1
        obtain ⟨g1, g2, g3⟩ := drop_hd hp
        obtain ⟨hwR, hwc⟩ := wts_mem.mp (hmem w List.mem_cons_self)
        obtain ⟨b1, b2, b3, b4⟩ := hR.2.2.1 w hwR
        have hpW : p < rW R := by omega
        have eo : J 325 0 p = nI w := by rw [hJ.2.1.1 p hpW]; simp [g1]
        have hv10 : vp_in (nI p) 10 := vin (by omega) (by omega)
        have hfsh : ∀ k, k < c → rg (fsh R s out c k) 0 100000 := fsh_rg hR hh hSR c (by omega)
        have eal : alO R (nI m) w (J 326 0) s.1 s.2.1 = alO R (nI m) w (fsh R s out c) s.1 s.2.1 := by
          unfold alO
          by_cases q : rl R w = 0
          · rw [if_pos q, if_pos q]
            have hlt : rf R w < c := by have := b4 q; omega
            rw [(hJ.2.2.2 _ hlt).1, fsh_lo c _ hlt]
          · rw [if_neg q, if_neg q]
        have har := alO_rg hR hwR hm (fr := fsh R s out c) (la := s.1) (ea := s.2.1) (fun z => hfsh _ (by have := b4 z; omega)) (hSR.1 _ b1).1 (hSR.1 _ b1).2.1
        rw [List.foldl_cons] at hf
        refine r_Go_turn_43 ⟨fun q => ?_, fun _ => ⟨fun q => absurd q (nle_c (m := 10) (by omega) (by omega)), fun _ => ⟨hv10, ?_⟩⟩⟩
        · rw [hAJ.2.1] at q
          exact absurd q (nI_ge hpW (by omega))
        rw [cl_n (by omega), eo]
        refine c_Road_toOf (by omega) (by omega) ⟨fun q => ?_, fun _ => ⟨hv10, ?_⟩⟩
        · rw [(hAJ.2.2.2.2.2.1 w hwR).2.1, hwc] at q
          exact absurd rfl q
        rw [eo]
        refine c_Go_lateFor (by omega) hR hAJ hsJ hJ.2.2.1 hwR ?_
        rw [eal, nI_1]
        have skip : ∀ J1 : MI, tuA I0 J1 R i m s out c → J1 327 0 c = b.2 → ¬ (b.1 < alO R (nI m) w (fsh R s out c) s.1 s.2.1 ∧ ¬ nI w = out ∧ kvO R (nI m) w (alO R (nI m) w (fsh R s out c) s.1 s.2.1) = 1) → XX (d + 1) m_Go_turn Q 43 [vR 320 0, vR 256 i, vI out, vI (nI (p + 1)), vI (nI c), vI b.1, vD, vD] [] J1 L := by
          intro J1 h1 h2 h3
          have hf : l.foldl (bst R (nI m) out (fsh R s out c) s.1 s.2.1) b = best R (nI m) out (fsh R s out c) s.1 s.2.1 c := by
            rw [← hf]
            unfold bst
            rw [if_neg h3]
          exact ihl (p + 1) b J1 (fun x hx => hmem x (List.mem_cons_of_mem _ hx)) (by omega) g2 hf hbr h1 h2
        refine ⟨fun q => skip J hJ hJc (fun z => absurd z.1 (Int32.not_lt.mpr q)), fun q1 => ⟨fun q => skip J hJ hJc (fun z => z.2.1 q), fun q2 => ?_⟩⟩
        have hlt := Int32.not_le.mp q1
        obtain ⟨y, hy2, hy⟩ := rg_nat (x := alO R (nI m) w (fsh R s out c) s.1 s.2.1) (b := 101200) ⟨by have := Int32.lt_iff_toInt_lt.mp hlt; have := hbr.1; omega, har.2⟩
        have hy1 : 1 ≤ y := by
          have h1 := Int32.lt_iff_toInt_lt.mp hlt
          rw [hy, nI_toInt (by omega)] at h1
          have := hbr.1
          omega
        rw [hsJ.2.2.2.1, em, hy]
        refine c_Go_isKept (by omega) hR hAJ hJ.2.1 hwR hm hy1 (by omega) (fun J1 hkn hS1 => ?_)
        have hik : Same goS J J1 := hS1.mono (fun r a q => ⟨by rcases q.1 with z | z | z | z <;> simp [z], q.2⟩)
        have n1 : ∀ r, r = 320 ∨ r = 323 ∨ r = 324 ∨ r = 325 ∨ r = 326 ∨ r = 327 → J1 r 0 = J r 0 := fun r hr => hS1 r 0 (fun q => by rcases q.1 with z | z | z | z <;> omega)
        have hJ1 : tuA I0 J1 R i m s out c := ⟨hJ.1.tr hik, GoA_of hJ.2.1 (n1 _ (by simp)) (fun k _ _ => by rw [n1 _ (by simp)]) (by rw [n1 _ (by simp)]) (n1 _ (by simp)) (n1 _ (by simp)) hkn, fun w hw => by rw [n1 323 (by simp), n1 324 (by simp)]; exact hJ.2.2.1 w hw, fun k hk => by rw [n1 326 (by simp), n1 327 (by simp)]; exact hJ.2.2.2 k hk⟩
        have hkv := kv01 hR hwR hm (show y ≤ 150000 by omega)
        refine ⟨fun q => skip J1 hJ1 (by rw [n1 327 (by simp)]; exact hJc) (fun z => by rw [hy, q] at z; exact absurd z.2.2 (by decide)), fun q => ⟨hv6, ?_⟩⟩
        have hk1 : kvO R (nI m) w (nI y) = 1 := by
          rcases hkv with z | z
          · exact absurd z q
          · exact z
        rw [cl_n (by omega)]
        have hcond : b.1 < alO R (nI m) w (fsh R s out c) s.1 s.2.1 ∧ ¬ nI w = out ∧ kvO R (nI m) w (alO R (nI m) w (fsh R s out c) s.1 s.2.1) = 1 := ⟨hlt, q2, by rw [hy]; exact hk1⟩
        have hf : l.foldl (bst R (nI m) out (fsh R s out c) s.1 s.2.1) (alO R (nI m) w (fsh R s out c) s.1 s.2.1, nI w) = best R (nI m) out (fsh R s out c) s.1 s.2.1 c := by
          rw [← hf]
          have : bst R (nI m) out (fsh R s out c) s.1 s.2.1 b w = (alO R (nI m) w (fsh R s out c) s.1 s.2.1, nI w) := by unfold bst; rw [if_pos hcond]
          rw [this]
        rw [hy] at hf har
        refine ihl (p + 1) (nI y, nI w) _ (fun x hx => hmem x (List.mem_cons_of_mem _ hx)) (by omega) g2 hf (rg_n (by omega) (by omega) (by omega)) ⟨hJ1.1.ui ⟨by simp, rfl⟩, GoA_of hJ1.2.1 (by rw [ui_off (by simp)]) (fun k h1 h2 => by rw [ui_r (by decide)]) (by rw [ui_r (by decide)]) (by rw [ui_off (by simp)]) (by rw [ui_off (by simp)]) (fun w hw k hk => by rw [ui_r (by decide)]; exact hJ1.2.1.2.2.2 w hw k hk), fun w hw => by rw [ui_r (by decide), ui_r (by decide)]; exact hJ1.2.2.1 w hw, fun k hk => ?_⟩ (by rw [ui_s])
        rw [ui_r (by decide), ui_k (by omega)]
        exact hJ1.2.2.2 k hk
    refine inner (wts R c) p (0, -1) _ (fun _ h => h) hpl (by rw [hp]; exact restL_c hcC) rfl (rg_lit (n := 0) (by omega) (by omega) (by omega)) ⟨hI.1.ui ⟨by simp, rfl⟩, GoA_of hI.2.1 (by rw [ui_off (by simp)]) (fun k h1 h2 => by rw [ui_r (by decide)]) (by rw [ui_r (by decide)]) (by rw [ui_off (by simp)]) (by rw [ui_off (by simp)]) (fun w hw k hk => by rw [ui_r (by decide)]; exact hI.2.1.2.2.2 w hw k hk), fun w hw => by rw [ui_r (by decide), ui_r (by decide)]; exact hI.2.2.1 w hw, fun k hk => ?_⟩ (by rw [ui_s])
    rw [ui_r (by decide), ui_k (by omega)]
    exact hI.2.2.2 k hk
end Turn
section Turn2
variable {d i : Nat} {I : MI} {L : ML} {R : RD} {s : SA} {out : Int32}
theorem frO_mem {I' : MI} {m : Nat} (hR : WF R) (h : tuA I I' R i m s out (rC R)) : ∀ c, c < 6 → I' 326 0 c = frO R s out c := by
  intro c hc
  unfold frO
  by_cases q : c < rC R
  · rw [if_pos q, (h.2.2.2 c q).1, fsh_lo _ _ q]
  · rw [if_neg q]; exact h.2.1.2.1 c (by omega) hc
theorem c_Go_turn {hb : Nat} {K : Int32 → MI → ML → Prop} (hd : 5 ≤ d) (hR : WF R) (hA : RoadA I 0 R) (hG : GoA I R) (hs : StA I i s) (hh : hb ≤ 1000) (hSR : SR R s hb)
    (h : ∀ (x : Int32) (I' : MI), (x = 0 ∧ stays s (frO R s out) 6 ∨ x = 1 ∧ ¬ stays s (frO R s out) 6) → StA I' i (trn R s out) → GoA I' R → (∀ c, c < rC R → I' 327 0 c = csO R s out c) → Same (tuS i) I I' → K x I' L) : CI d m_Go_turn [vR 320 0, vR 256 i, vI out] I L K := by
  obtain ⟨m, hm, em⟩ := hSR.2
  refine toCI (n := 4) hd (r_Go_turn_0 ?_)
  rw [hs.2.2.2.1, em]
  refine c_Go_reckon (by omega) hR hA hG hm (fun I1 hG1 ht1 _ hS1 => ?_)
  have hSg : Same goS I I1 := hS1.mono (fun r a q => ⟨by rcases q.1 with z | z | z | z | z | z <;> simp [z], q.2⟩)
  have hA1 := hA.same hSg (fun r h1 h2 => goS_road h1 h2)
  have hs1 := StA_go hs hSg
  refine l_turn (by omega) hR hA1 hs1 hm em hh hSR (fun I2 h2 => ?_) (rC R) 0 0 I1 (by omega) (by omega) ?_ ⟨Same.rf, hG1, ht1, fun k hk => by omega⟩
  · refine c_St_passTo (by omega) (StA_go hs1 h2.1) (frO_mem hR h2) (fun x I3 hx hs3 hS3 => ⟨by rcases hx with z | z; exact Or.inl z.1; exact Or.inr z.1, _, rfl, h x I3 hx hs3 ?_ ?_ ?_⟩)
    · have n1 : ∀ r, 260 ≤ r → I3 r 0 = I2 r 0 := fun r hr => hS3 r 0 (fun q => by rcases q.1 with z | z | z | z <;> omega)
      exact GoA_of h2.2.1 (n1 _ (by omega)) (fun c _ _ => by rw [n1 _ (by omega)]) (by rw [n1 _ (by omega)]) (n1 _ (by omega)) (n1 _ (by omega)) (fun w hw k hk => by rw [n1 _ (by omega)]; exact h2.2.1.2.2.2 w hw k hk)
    · intro c hc
      rw [hS3 327 0 (fun q => by rcases q.1 with z | z | z | z <;> omega)]
      exact (h2.2.2.2 c hc).2
    · exact ((hSg.tr h2.1).mono (fun _ _ q => Or.inl q)).tr (hS3.mono (fun _ _ q => Or.inr q))
  · simp [ordL, restL]
end Turn2

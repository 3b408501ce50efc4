/-! leeway, lists -/
def msk (c : Nat) : Int32 := ((1 : Int32) <<< (nI c &&& 31)) ^^^ (-1 : Int32)
def hrm (R : RD) (t : SA) (M : Int32) : Prop := (spN R t 99).2.2.2 &&& M = 0
theorem wm_iff {R : RD} {t : SA} {M : Int32} : ∀ n, (spN R t n).2.2.2 &&& M = 0 ↔ ∀ j, 1 ≤ j → j ≤ n → whoN (itN R t j).1 6 &&& M = 0 := by
  intro n
  induction n with
  | zero => exact ⟨fun _ j h1 h2 => by omega, fun _ => Int32.zero_and⟩
  | succ n ih =>
    show ((spN R t n).2.2.2 ||| whoN (itN R t (n + 1)).1 6) &&& M = 0 ↔ _
    rw [or_dist, or_z, ih]
    refine ⟨fun h j h1 h2 => ?_, fun h => ⟨fun j h1 h2 => h j h1 (by omega), h (n + 1) (by omega) (by omega)⟩⟩
    by_cases e : j = n + 1
    · rw [e]; exact h.2
    · exact h.1 j h1 (by omega)
def lwN (R : RD) (m : Int32) (c : Nat) : Nat → Int32
  | 0 => -1
  | n + 1 => if (spN R (plS m c (nI n)) 99).2.2.2 &&& msk c = 0 then nI n else lwN R m c n
def yy : Nat → Int32
  | 0 => -1
  | n + 1 => nI n
theorem yy_d (n : Nat) : nI n + (-1) = yy n := by
  cases n with
  | zero => decide
  | succ n =>
    show nI (n + 1) + (-1) = nI n
    rw [← nI_add n 1, Int32.add_assoc]
    have : nI 1 + (-1 : Int32) = 0 := by decide
    rw [this, Int32.add_zero]
section Lee
variable {d : Nat} {I : MI} {L : ML} {R : RD} {s : SA} {P : List SA}
theorem c_W_harms {c n : Nat} {K : Int32 → MI → ML → Prop} (hd : 6 ≤ d) (hO : CoO R s P) (hc : CoC I R s P) (hcl : c < rC R) (hn : n ≤ 99) (h1 : (spN R (plS s.2.2.2.1 c (nI n)) 99).2.2.2 &&& msk c = 0 → ∀ I', CoC I' R s P → Same cdS I I' → K 1 I' L) (h0 : ¬ (spN R (plS s.2.2.2.1 c (nI n)) 99).2.2.2 &&& msk c = 0 → ∀ I', CoC I' R s P → Same cdS I I' → K 0 I' L) : CI d m_W_harmsNobodyElse [vR 0 0, vI (nI c), vI (nI n)] I L K := by
  have hR := hO.1
  obtain ⟨m, hm, em⟩ := hO.2.1.1.2
  refine toCI (n := 5) hd (r_W_harmsNobodyElse_0 (c_W_planWithHeld (by omega) hO hc hcl (fun I1 hs1 hc1 hS1 => ?_)))
  rw [em] at h1 h0 hs1
  have hSR := plS_SR (R := R) (c := c) hm hn
  generalize plS (nI m) c (nI n) = t at *
  rw [wm_iff] at h1 h0
  have key : ∀ (l k : Nat) (J : MI), k + l = 99 → (∀ j, 1 ≤ j → j ≤ k → whoN (itN R t j).1 6 &&& msk c = 0) → StA J 2 (itN R t k) → CoC J R s P → Same cdS I J → XX (5 + 1) m_W_harmsNobodyElse (fun r I' L' => ∃ x, r = some (vI x) ∧ K x I' L') 8 [vR 0 0, vI (nI c), vD, vI (nI k), vD] [] J L := by
    intro l
    induction l with
    | zero =>
      intro k J hk hw hs hcJ hS
      have ek : k = 99 := by omega
      subst ek
      exact r_W_harmsNobodyElse_8 ⟨fun _ => ⟨_, rfl, h1 hw J hcJ hS⟩, fun q => absurd (by decide) q⟩
    | succ l ih =>
      intro k J hk hw hs hcJ hS
      refine r_W_harmsNobodyElse_8 ⟨fun q => absurd q (nle_c (m := 99) (by omega) (by omega)), fun _ => ?_⟩
      refine c_Go_turn (hb := 99) (by omega) hR hcJ.1 hcJ.2.2.1 hs (by omega) (itN_SR hR (by omega) hSR k) (fun x J1 hx hs1 hG1 _ hS1 => c_St_lateBits (by omega) ?_)
      have hcJ1 := CoC_tu hcJ (i := 2) (by omega) (by omega) hG1 hS1
      have hSJ := hS.tr (tu_cd (i := 2) (by omega) hS1)
      have eW : whoN (J1 257 2) 6 = whoN (itN R t (k + 1)).1 6 := whoN_eq 6 (fun c hc => hs1.1 c hc)
      rw [eW, nI_1]
      refine ⟨fun q => ⟨fun y => ih (k + 1) J1 (by omega) (fun j a b => ?_) hs1 hcJ1 hSJ, fun y => ⟨_, rfl, h1 (fun j a b => ?_) J1 hcJ1 hSJ⟩⟩, fun q => ⟨_, rfl, h0 (fun z => q (z (k + 1) (by omega) (by omega))) J1 hcJ1 hSJ⟩⟩
      · by_cases e : j = k + 1
        · rw [e]; exact q
        · exact hw j a (by omega)
      · rcases Nat.lt_or_ge k j with z | z
        · have hst : stays (itN R t k) (frO R (itN R t k) (-1)) 6 := by
            rcases hx with ⟨_, w⟩ | ⟨w, _⟩
            · exact w
            · rw [w] at y; exact absurd (by decide) y
          have e1 : itN R t j = itN R (itN R t k) (j - k) := by rw [← itN_add]; congr 1; omega
          have e2 : itN R t (k + 1) = itN R (itN R t k) 1 := rfl
          have s1 := stay_it hR hst (j - k)
          have s2 := stay_it hR hst 1
          have e3 : whoN (itN R t j).1 6 = whoN (itN R t (k + 1)).1 6 := by
            rw [e1, e2]
            exact whoN_eq 6 (fun c hc => ((s1.1 c hc).1).trans (s2.1 c hc).1.symm)
          rw [e3]
          exact q
        · exact hw j a z
  exact key 99 0 I1 (by omega) (fun j a b => by omega) hs1 hc1 hS1
theorem w_leeway {c : Int32} {K : Int32 → MI → ML → Prop} (hd : 7 ≤ d) (hO : CoO R s P) (hc : CoC I R s P) (h2 : ¬ isC R c → K (-2) I L) (h1 : isC R c → ∀ I', CoC I' R s P → Same cdS I I' → K (lwN R s.2.2.2.1 c.toInt.toNat 100) I' L) : CI d m_W_leeway [vR 0 0, vI c] I L K := by
  have hR := hO.1
  refine toCI (n := 6) hd (r_W_leeway_0 (c_W_isCoach (by omega) hR hc.1 (fun g1 g2 => ⟨fun _ => ?_, fun q => absurd (by decide) q⟩) (fun g => ⟨fun q => absurd rfl q, fun _ => ⟨_, rfl, h2 g⟩⟩)))
  have fin := h1 ⟨g1, g2⟩
  have e1 := ge_nI g1
  have b1 : c.toInt.toNat < rC R := by omega
  clear g1 g2 h1 h2
  generalize c.toInt.toNat = c' at *
  subst e1
  have key : ∀ (r : Nat) (J : MI), r ≤ 100 → lwN R s.2.2.2.1 c' r = lwN R s.2.2.2.1 c' 100 → CoC J R s P → Same cdS I J → XX (6 + 1) m_W_leeway (fun r I' L' => ∃ x, r = some (vI x) ∧ K x I' L') 14 [vR 0 0, vI (nI c'), vI (yy r)] [] J L := by
    intro r
    induction r with
    | zero =>
      intro J _ he hcJ hS
      refine r_W_leeway_14 ⟨fun _ => ⟨_, rfl, ?_⟩, fun q => absurd (by decide) q⟩
      have := fin J hcJ hS
      rw [← he] at this
      exact this
    | succ n ih =>
      intro J hn he hcJ hS
      refine r_W_leeway_14 ⟨fun q => absurd q (nlt0 (n := n) (by omega)), fun _ => ?_⟩
      have he2 : lwN R s.2.2.2.1 c' (n + 1) = (if (spN R (plS s.2.2.2.1 c' (nI n)) 99).2.2.2 &&& msk c' = 0 then nI n else lwN R s.2.2.2.1 c' n) := rfl
      refine c_W_harms (n := n) (by omega) hO hcJ b1 (by omega) (fun q I' hc' hS' => ⟨fun z => absurd z (by decide), fun _ => ⟨_, rfl, ?_⟩⟩) (fun q I' hc' hS' => ⟨fun _ => ?_, fun z => absurd rfl z⟩)
      · rw [he2, if_pos q] at he
        have := fin I' hc' (hS.tr hS')
        rw [← he] at this
        exact this
      · rw [he2, if_neg q] at he
        have e : yy (n + 1) + (-1) = yy n := yy_d n
        rw [e]
        exact ih I' (by omega) he hc' (hS.tr hS')
  exact key 100 I (by omega) rfl hc Same.rf
theorem m_leeway {c : Int32} {K : Int32 → MI → ML → Prop} (hd : 7 ≤ d) (hO : CoO R s P) (hc : CoM I R s P) (h2 : ¬ isC R c → K (-2) (ui I 704 0 0 0) L) (h1 : isC R c → ∀ I', CoM I' R s P → mFr I I' → K (lwN R s.2.2.2.1 c.toInt.toNat 100) I' L) : CI d m_M_leeway [vR 704 0, vI c] I L K := by
  have hR := hO.1
  have hC := hR.1
  have ec := Int32.toInt_toInt64 c
  have hc0 : CoM (ui I 704 0 0 0) R s P := CoM_cg hR hc t0_6
  refine toCI (n := 6) hd (r_M_leeway_0 (c_M_isCoach (by omega) hR hc0.1 (fun g1 g2 => ⟨fun _ => ?_, fun q => absurd (by decide) q⟩) (fun g => ⟨fun q => absurd rfl q, fun _ => ⟨_, rfl, h2 (by rw [ec] at g; exact g)⟩⟩)))
  rw [ec] at g1 g2
  have fin := h1 ⟨g1, g2⟩
  have e1 := ge_nI g1
  have b1 : c.toInt.toNat < rC R := by omega
  clear g1 g2 h1 h2 ec
  generalize c.toInt.toNat = c' at *
  subst e1
  have key : ∀ (r : Nat) (J : MI), r ≤ 100 → lwN R s.2.2.2.1 c' r = lwN R s.2.2.2.1 c' 100 → CoM J R s P → J 704 0 0 = 0 → mF0 I J → XX (6 + 1) m_M_leeway (fun r I' L' => ∃ x, r = some (vI x) ∧ K x I' L') 20 [vR 704 0, vI (nI c'), vI (yy r), vD, vD] [] J L := by
    intro r
    induction r with
    | zero =>
      intro J _ he hcJ ht hF
      refine r_M_leeway_20 ⟨fun _ => ⟨_, rfl, ?_⟩, fun q => absurd (by decide) q⟩
      have := fin J hcJ ⟨hF, ht⟩
      rw [← he] at this
      exact this
    | succ n ih =>
      intro J hn he hcJ ht hF
      refine r_M_leeway_20 ⟨fun q => absurd q (nlt0 (n := n) (by omega)), fun _ => ?_⟩
      refine c_M_laysSpread (n := n) (by omega) hO hcJ b1 (by omega) (fun J1 hrw h6 ht1 hF1 => ?_)
      have hcJ1 : CoM J1 R s P := CoM_cg hR hcJ h6
      have hzt : Zr R (plS s.2.2.2.1 c' (nI n)) := plS_Zr b1
      have he2 : lwN R s.2.2.2.1 c' (n + 1) = (if (spN R (plS s.2.2.2.1 c' (nI n)) 99).2.2.2 &&& msk c' = 0 then nI n else lwN R s.2.2.2.1 c' n) := rfl
      generalize plS s.2.2.2.1 c' (nI n) = t at *
      have inner : ∀ (l k : Nat), k + l = 99 → XX (6 + 1) m_M_leeway (fun r I' L' => ∃ x, r = some (vI x) ∧ K x I' L') 35 [vR 704 0, vI (nI c'), vI (nI n), vI (spN R t k).2.2.2, vI (nI (k + 1))] [] J1 L := by
        intro l
        induction l with
        | zero =>
          intro k hk
          have ek : k = 99 := by omega
          subst ek
          have e : nI n + (-1) = yy n := yy_d n
          refine r_M_leeway_35 ?_
          rw [e]
          refine ⟨fun _ => ⟨fun q => ?_, fun q => ⟨_, rfl, ?_⟩⟩, fun q => absurd (by decide) q⟩
          · have q : ¬ (spN R t 99).2.2.2 &&& msk c' = 0 := q
            rw [he2, if_neg q] at he
            exact ih J1 (by omega) he hcJ1 (by rw [ht1]; exact ht) (hF.tr hF1)
          · have q : (spN R t 99).2.2.2 &&& msk c' = 0 := Classical.not_not.mp q
            rw [he2, if_pos q] at he
            have := fin J1 hcJ1 ⟨hF.tr hF1, by rw [ht1]; exact ht⟩
            rw [← he] at this
            exact this
        | succ l ihl =>
          intro k hk
          have hrow := hrw (k + 1) (by omega)
          have hz := itN_Zr hzt (k + 1)
          have eW : whoN (fun b => J1 724 0 (6 * (k + 1 + 1) + b)) (rC R) = whoN (itN R t (k + 1)).1 6 := by
            rw [who6 hR hz]; exact whoN_eq _ (fun b hb => (hrow b hb).1)
          refine r_M_leeway_35 ⟨fun q => absurd q (nI_nlt (a := 99) (b := k + 1) (by omega) (by omega)), fun _ => ?_⟩
          refine c_M_whoIn (r := k + 1 + 1) (by omega) (nI_add (k + 1) 1) (by omega) hcJ1.1.1 hC ?_
          rw [eW, nI_1]
          exact ihl (k + 1) (by omega)
      exact inner 99 0 (by omega)
  exact key 100 _ (by omega) rfl hc0 ui_s t0_F
/-- what lists leaves in a tray -/
def lsT (R : RD) (s : SA) (c : Nat) (x : Nat × Nat × (Nat → Int64)) : TA := some (x.1, x.2.1, fun k => ctO x.1 ((itN R s (k + 1)).1 c).toInt64)
theorem c_Tr_put {so j k : Nat} {v : Int64} {K : MI → ML → Prop} (hd : 2 ≤ d) (hso : so ≤ 3) (e : I 640 j 1 = nI so) (hk : k < 40) (h : K I (ul L 641 j k (ctO so v))) : CV d m_Tr_put [vR 640 j, vI (nI k), vL v] I L K := by
  refine toCV (n := 1) hd (r_Tr_put_0 ⟨fun q => absurd q (nlt0 (by omega)), fun _ => ⟨fun q => absurd q (nle_c (m := 40) hk (by omega)), fun _ => c_Tr_cut (by omega) hso e ⟨vin hk (by omega), rfl, ?_⟩⟩⟩)
  rw [cl_n (by omega)]; exact h
theorem w_lists {T : Nat → TA} {a c : Int32} {K : Int32 → MI → ML → Prop} (hd : 6 ≤ d) (hO : CoO R s P) (hc : CoC I R s P) (hT : tsC I L T) (h2 : ¬ (is3 a ∧ isC R c) → K (-2) I L) (h6 : is3 a → isC R c → T a.toInt.toNat = none → K (-6) I L) (h1 : ∀ x, is3 a → isC R c → T a.toInt.toNat = some x → ∀ I' L', CoC I' R s P → tsC I' L' (upT T a.toInt.toNat (lsT R s c.toInt.toNat x)) → Same cdS I I' → (∀ r b, r ≠ 641 → L' r b = L r b) → K (nI x.2.1) I' L') : CI d m_W_lists [vR 0 0, vI a, vI c] I L K := by
  have hR := hO.1
  have hC := hR.1
  refine toCI (n := 5) hd (r_W_lists_0 (c_W_trayAt (by omega) (fun g => ⟨_, rfl, h2 (fun z => g z.1)⟩) (fun g1 g2 => c_W_isCoach (by omega) hR hc.1 (fun g3 g4 => ⟨fun _ => ?_, fun q => absurd (by decide) q⟩) (fun g => ⟨fun q => absurd rfl q, fun _ => ⟨_, rfl, h2 (fun z => g z.2)⟩⟩))))
  obtain ⟨ht, hTr⟩ := hT a.toInt.toNat (by omega)
  refine c_Tr_isMissing (by omega) ht hTr (fun e => ⟨fun z => absurd z (by decide), fun _ => ⟨_, rfl, h6 ⟨g1, g2⟩ ⟨g3, g4⟩ e⟩⟩) (fun so n f e hso hn => ⟨fun _ => ?_, fun z => absurd rfl z⟩)
  have fin := h1 _ ⟨g1, g2⟩ ⟨g3, g4⟩ e
  rw [e] at hTr
  obtain ⟨t1, t2, t3⟩ := hTr
  have t1 : I 640 a.toInt.toNat 1 = nI so := t1
  have t2 : I 640 a.toInt.toNat 2 = nI n := t2
  have e1 := ge_nI g3
  have b1 : c.toInt.toNat < rC R := by omega
  have b2 : a.toInt.toNat < 4 := by omega
  clear h1 h2 h6 g1 g2 g3 g4 t3 e
  generalize c.toInt.toNat = c' at *
  generalize a.toInt.toNat = a' at *
  subst e1
  refine c_St_copy (by omega) (by omega) hc.2.1 (fun I1 hs1 hS1 => ?_)
  have hG1 := GoA_st hc.2.2.1 hS1
  have hc1 := CoC_tu hc (i := 2) (by omega) (by omega) hG1 (st_tu hS1)
  have n640 : ∀ b, ¬ tuS 2 640 b := fun b q => by
    rcases q with z | z
    · rcases z.1 with y | y | y | y | y | y | y | y | y <;> omega
    · rcases z.1 with y | y | y | y <;> omega
  have key : ∀ (l k : Nat) (J : MI) (M : ML), k + l = n → StA J 2 (itN R s k) → CoC J R s P → Same (tuS 2) I J → (∀ j, j < k → M 641 a' j = ctO so ((itN R s (j + 1)).1 c').toInt64) → (∀ r b, ¬ (r = 641 ∧ b = a') → M r b = L r b) → XX (5 + 1) m_W_lists (fun r I' L' => ∃ x, r = some (vI x) ∧ K x I' L') 45 [vR 0 0, vD, vI (nI c'), vR 640 a', vI (nI k)] [] J M := by
    intro l
    induction l with
    | zero =>
      intro k J M hk hs hcJ hS hm ho
      have x2 : J 640 a' 2 = nI n := by rw [hS 640 a' (n640 a')]; exact t2
      refine r_W_lists_45 (c_Tr_size (by omega) ?_)
      rw [x2]
      refine ⟨fun _ => c_Tr_size (by omega) ⟨_, rfl, ?_⟩, fun q => absurd (nI_le (show n ≤ k by omega) (by omega)) q⟩
      rw [x2]
      refine fin J M hcJ (fun i hi => ?_) (tu_cd (by omega) hS) (fun r b hr => ho r b (fun q => hr q.1))
      unfold upT
      by_cases e : i = a'
      · subst e
        rw [if_pos rfl]
        exact ⟨⟨hso, hn⟩, by rw [hS 640 i (n640 i)]; exact t1, x2, fun j hj => hm j (by have : j < n := hj; omega)⟩
      · rw [if_neg e]
        refine ⟨(hT i hi).1, ?_⟩
        have hTi := (hT i hi).2
        unfold TrC at hTi ⊢
        rw [hS 640 i (n640 i), ho 641 i (fun q => e q.2)]
        exact hTi
    | succ l ih =>
      intro k J M hk hs hcJ hS hm ho
      have x1 : J 640 a' 1 = nI so := by rw [hS 640 a' (n640 a')]; exact t1
      have x2 : J 640 a' 2 = nI n := by rw [hS 640 a' (n640 a')]; exact t2
      refine r_W_lists_45 (c_Tr_size (by omega) ?_)
      rw [x2]
      refine ⟨fun q => absurd q (nI_ge (show k < n by omega) (by omega)), fun _ => ?_⟩
      refine c_Go_turn (hb := 9) (by omega) hR hcJ.1 hcJ.2.2.1 hs (by omega) (itN_Ok hR hO.2.1 k).1 (fun x J1 _ hs1 hG1 _ hS1 => c_St_lastOf (by omega) (by omega) ?_)
      have y1 : J1 640 a' 1 = nI so := by rw [hS1 640 a' (n640 a')]; exact x1
      refine c_Tr_put (by omega) hso y1 (by omega) ?_
      rw [hs1.1 c' (by omega), nI_1]
      refine ih (k + 1) J1 _ (by omega) hs1 (CoC_tu hcJ (by omega) (by omega) hG1 hS1) (hS.tr hS1) (fun j hj => ?_) (fun r b hr => by rw [ul_o hr]; exact ho r b hr)
      by_cases e : j = k
      · subst e; rw [ul_s]; rfl
      · rw [ul_k e]; exact hm j (by omega)
  exact key n 0 I1 L (by omega) hs1 hc1 (st_tu hS1) (fun j hj => by omega) (fun _ _ _ => rfl)
theorem m_lists {T : Nat → TA} {a c : Int32} {K : Int32 → MI → ML → Prop} (hd : 7 ≤ d) (hO : CoO R s P) (hc : CoM I R s P) (hT : tsM I L T) (h2 : ¬ (is3 a ∧ isC R c) → K (-2) (ui I 704 0 0 0) L) (h6 : is3 a → isC R c → T a.toInt.toNat = none → K (-6) (ui I 704 0 0 0) L) (h1 : ∀ x, is3 a → isC R c → T a.toInt.toNat = some x → ∀ I' L', CoM I' R s P → tsM I' L' (upT T a.toInt.toNat (lsT R s c.toInt.toNat x)) → mFr I I' → (∀ r b, r ≠ 744 → L' r b = L r b) → K (nI x.2.1) I' L') : CI d m_M_lists [vR 704 0, vI a, vI c] I L K := by
  have hR := hO.1
  have hC := hR.1
  have ea := Int32.toInt_toInt64 a
  have ec := Int32.toInt_toInt64 c
  have c0 : (0 : Int64).toInt = 0 := rfl
  have c3 : (3 : Int64).toInt = 3 := rfl
  have hc0 : CoM (ui I 704 0 0 0) R s P := CoM_cg hR hc t0_6
  refine toCI (n := 6) hd (r_M_lists_0 (c_M_within (by omega) (fun g1 g2 => ⟨fun q => absurd q (by decide), fun _ => ?_⟩) (fun g => ⟨fun _ => ⟨_, rfl, h2 (fun z => g (by rw [ea, c0, c3]; exact z.1))⟩, fun q => absurd rfl q⟩)))
  rw [ea, c0] at g1
  rw [ea, c3] at g2
  refine c_M_isCoach (by omega) hR hc0.1 (fun g3 g4 => ⟨fun _ => ?_, fun q => absurd (by decide) q⟩) (fun g => ⟨fun q => absurd rfl q, fun _ => ⟨_, rfl, h2 (fun z => g (by rw [ec]; exact z.2))⟩⟩)
  rw [ec] at g3 g4
  refine c_M_noTray (t := T a.toInt.toNat) (by omega) (fun z => ?_) (fun g => absurd ⟨g1, g2⟩ g) (fun g e => ⟨fun q => absurd q (by decide), fun _ => ⟨_, rfl, h6 g ⟨g3, g4⟩ e⟩⟩) (fun so n f g e hso hn => ⟨fun _ => ?_, fun q => absurd rfl q⟩)
  · have := hT a.toInt.toNat (by omega)
    exact ⟨this.1, TrM_F this.2 t0_F⟩
  have ha4 : a.toInt.toNat < 4 := by omega
  have hTr := TrM_F (hT a.toInt.toNat ha4).2 (t0_F (I := I))
  rw [e] at hTr
  obtain ⟨t1, t2, t3⟩ := hTr
  have t2 : ui I 704 0 0 0 743 0 a.toInt.toNat = nI n := t2
  have t1 : ui I 704 0 0 0 742 0 a.toInt.toNat = nI so := t1
  have fin := h1 _ g ⟨g3, g4⟩ e
  have e1 := ge_nI g3
  have e2 := ge_nI g1
  have b1 : c.toInt.toNat < rC R := by omega
  clear h1 h2 h6 g1 g2 g3 g4 t3 e g ea ec
  generalize c.toInt.toNat = c' at *
  generalize a.toInt.toNat = a' at *
  subst e1 e2
  rw [cl_n (by omega), t2]
  refine ⟨vin ha4 (by omega), c_M_goesFor (by omega) hO hc0 (by omega) (fun J hrw _ h6 ht hF => ?_)⟩
  have n2 : J 742 0 = ui I 704 0 0 0 742 0 := hF.1 742 0 (fun q => by rcases q.1 with z | z | z <;> omega)
  have n3 : J 743 0 = ui I 704 0 0 0 743 0 := hF.1 743 0 (fun q => by rcases q.1 with z | z | z <;> omega)
  have key : ∀ (l k : Nat) (M : ML), k + l = n → (∀ j, j < k → M 744 0 (40 * a' + j) = ctO so ((itN R s (j + 1)).1 c').toInt64) → (∀ r b, r ≠ 744 → M r b = L r b) → (∀ j, ¬ (40 * a' ≤ j ∧ j < 40 * a' + 40) → M 744 0 j = L 744 0 j) → XX (6 + 1) m_M_lists (fun r I' L' => ∃ x, r = some (vI x) ∧ K x I' L') 54 [vR 704 0, vI (nI a'), vI (nI c'), vD, vI (nI k)] [] J M := by
    intro l
    induction l with
    | zero =>
      intro k M hk hm ho hi
      refine r_M_lists_54 ?_
      rw [cl_n (by omega), n3, t2]
      refine ⟨vin ha4 (by omega), fun _ => ⟨vin ha4 (by omega), _, rfl, ?_⟩, fun q => absurd (nI_le (show n ≤ k by omega) (by omega)) q⟩
      refine fin J M (CoM_cg hR hc0 h6) (fun i hi4 => ?_) ⟨t0_F.tr hF, by rw [ht, ui_s]⟩ ho
      unfold upT
      by_cases e : i = a'
      · subst e
        rw [if_pos rfl]
        exact ⟨⟨hso, hn⟩, by rw [n2]; exact t1, by rw [n3]; exact t2, fun j hj => hm j (by have : j < n := hj; omega)⟩
      · rw [if_neg e]
        refine ⟨(hT i hi4).1, ?_⟩
        have hTi := TrM_F (hT i hi4).2 (t0_F.tr hF)
        have hok := (hT i hi4).1
        revert hTi hok
        cases T i with
        | none => intro hTi _; exact hTi
        | some x =>
          intro hTi hok
          have hx : x.2.1 ≤ 40 := hok.2
          refine ⟨hTi.1, hTi.2.1, fun j hj => ?_⟩
          rw [hi _ (by omega)]; exact hTi.2.2 j hj
    | succ l ih =>
      intro k M hk hm ho hi
      have eix : ((40 : Int32) * nI a') + nI k = nI (40 * a' + k) := by
        have x1 : (40 : Int32) * nI a' = nI (40 * a') := pk_mul 40 a'
        rw [x1, nI_add]
      have hrow := hrw (k + 1) (by omega) c' b1
      refine r_M_lists_54 ?_
      rw [cl_n (by omega), n3, t2, nI_1, eix, cl_n (by omega)]
      refine ⟨vin ha4 (by omega), fun q => absurd q (nI_ge (show k < n by omega) (by omega)), fun _ => c_M_lateAt (by omega) (by omega) (by omega) ⟨vin ha4 (by omega), ?_⟩⟩
      rw [hrow.1, n2, t1]
      refine c_M_cut (by omega) hso ⟨vin (by omega) (by omega), ih (k + 1) _ (by omega) (fun j hj => ?_) (fun r b hr => by rw [ul_o (fun q => hr q.1)]; exact ho r b hr) (fun j hj => ?_)⟩
      · by_cases e : j = k
        · subst e; rw [ul_s]
        · rw [ul_k (by omega)]; exact hm j (by omega)
      · rw [ul_k (by omega)]; exact hi j hj
  exact key n 0 L (by omega) (fun j hj => by omega) (fun _ _ _ => rfl) (fun _ _ => rfl)
end Lee

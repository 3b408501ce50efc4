/-! room, leave, hour, leaves: the program -/
theorem sh_tab : ((List.range 11).all fun w => decide (((1 : Int32) <<< (nI w &&& 31)) = nI (2 ^ w))) = true := by decide +kernel
theorem sh_1 {w : Nat} (hw : w ≤ 10) : ((1 : Int32) <<< (nI w &&& 31)) = nI (2 ^ w) := of_decide_eq_true (List.all_eq_true.mp sh_tab w (List.mem_range.mpr (by omega)))
/-- how much room a ring has -/
def vrN (R : RD) (m k : Nat) : Int := (rP R).toInt * (rgL R k : Int) - (rgT R m k : Int)
theorem vr_rg {R : RD} (hR : WF R) {m k : Nat} (hm : m ≤ 9) : -9990 ≤ vrN R m k ∧ vrN R m k ≤ 1980 := by
  have h1 := rgT_le hR (m := m) (k := k) hm
  have h2 := rgL_le hR (k := k)
  have h3 := hR.2.2.2.1
  unfold vrN
  have a1 : 0 ≤ (rP R).toInt * (rgL R k : Int) := Int.mul_nonneg (by have := h3.1; omega) (by omega)
  have a2 : (rP R).toInt * (rgL R k : Int) ≤ 99 * 20 := Int.mul_le_mul h3.2 (by omega) (by omega) (by omega)
  omega
theorem vr_i {R : RD} (hR : WF R) {m k : Nat} (hm : m ≤ 9) : ((rP R * nI (rgL R k)) - nI (rgT R m k)).toInt = vrN R m k := by
  have h1 := rgT_le hR (m := m) (k := k) hm
  have h2 := rgL_le hR (k := k)
  have h3 := hR.2.2.2.1
  have a1 : 0 ≤ (rP R).toInt * (rgL R k : Int) := Int.mul_nonneg (by have := h3.1; omega) (by omega)
  have a2 : (rP R).toInt * (rgL R k : Int) ≤ 99 * 20 := Int.mul_le_mul h3.2 (by omega) (by omega) (by omega)
  have e1 : (rP R * nI (rgL R k)).toInt = (rP R).toInt * (rgL R k : Int) := by
    rw [Int32.toInt_mul, nI_toInt (by omega)]
    exact Int.bmod_eq_of_le (by omega) (by omega)
  rw [Int32.toInt_sub, e1, nI_toInt (by omega)]
  exact Int.bmod_eq_of_le (by omega) (by omega)
def rmP (R : RD) (m w : Nat) (x : Int32) : Prop := ((∀ k, Rng R k → k.testBit w = false) ∧ x = -1) ∨ ∃ k y, Rng R k ∧ k.testBit w = true ∧ y.toInt = vrN R m k ∧ (∀ k', Rng R k' → k'.testBit w = true → vrN R m k ≤ vrN R m k') ∧ x = if 0 ≤ y then y else y - (1000000 : Int32)
theorem rmP_1 {R : RD} {m w : Nat} {x y : Int32} (h1 : rmP R m w x) (h2 : rmP R m w y) : x = y := by
  rcases h1 with ⟨n1, e1⟩ | ⟨k1, y1, a1, b1, c1, d1, e1⟩ <;> rcases h2 with ⟨n2, e2⟩ | ⟨k2, y2, a2, b2, c2, d2, e2⟩
  · rw [e1, e2]
  · have := n1 k2 a2; rw [b2] at this; exact absurd this (by decide)
  · have := n2 k1 a1; rw [b1] at this; exact absurd this (by decide)
  · have : y1 = y2 := Int32.toInt_inj.mp (by have := d1 k2 a2 b2; have := d2 k1 a1 b1; omega)
    rw [e1, e2, this]
/-- without the one wait the slowest is no slower than without the other -/
def mle (R : RD) (m a b : Nat) : Prop := ∀ k, Rng R k → k &&& 2 ^ a = 0 → ∃ k', Rng R k' ∧ k' &&& 2 ^ b = 0 ∧ ple R m k k'
def lvP (R : RD) (m : Nat) (x : Int32) : Prop := (rW R = 0 ∧ x = -1) ∨ ∃ b, b < rW R ∧ x = nI b ∧ (∀ w, w < rW R → mle R m b w) ∧ ∀ w, w < b → ¬ mle R m w b
theorem lvP_1 {R : RD} {m : Nat} {x y : Int32} (h1 : lvP R m x) (h2 : lvP R m y) : x = y := by
  rcases h1 with ⟨n1, e1⟩ | ⟨b1, a1, e1, c1, d1⟩ <;> rcases h2 with ⟨n2, e2⟩ | ⟨b2, a2, e2, c2, d2⟩
  · rw [e1, e2]
  · omega
  · omega
  · rcases Nat.lt_trichotomy b1 b2 with z | z | z
    · exact absurd (c1 b2 a2) (d2 b1 z)
    · rw [e1, e2, z]
    · exact absurd (c2 b1 a1) (d1 b2 z)
theorem mle_tr {R : RD} (hR : WF R) {m a b c : Nat} (h1 : mle R m a b) (h2 : mle R m b c) : mle R m a c := fun k hk hz => by
  obtain ⟨k1, r1, z1, p1⟩ := h1 k hk hz
  obtain ⟨k2, r2, z2, p2⟩ := h2 k1 r1 z1
  exact ⟨k2, r2, z2, ple_tr hR r1 p1 p2⟩
theorem mle_rf {R : RD} {m a : Nat} : mle R m a a := fun k hk hz => ⟨k, hk, hz, Nat.le_refl _⟩
/-! one putting off: over the waits that are not left out -/
def psN (R : RD) (m : Nat) (p : Int32) (o : Nat) (h : Nat → Int32) : Nat → (Nat → Int32) × Bool
  | 0 => (h, false)
  | n + 1 => if o.testBit n = false ∧ (psN R m p o h n).1 (rt R n) < ((psN R m p o h n).1 (rf R n) + nI (tN R m n)) - nI (rl R n) * p then (fun c => if c = rt R n then ((psN R m p o h n).1 (rf R n) + nI (tN R m n)) - nI (rl R n) * p else (psN R m p o h n).1 c, true) else psN R m p o h n
def kpN (R : RD) (m : Nat) (p : Int32) (o : Nat) : Nat → (Nat → Int32) → Option (Nat → Int32)
  | 0, _ => none
  | f + 1, h => if (psN R m p o h (rW R)).2 = true then kpN R m p o f (psN R m p o h (rW R)).1 else some (psN R m p o h (rW R)).1
def hrO (R : RD) (m : Nat) (p : Int32) (c : Nat) : Int32 := match kpN R m p 0 7 (fun _ => 0) with
  | some g => g c
  | none => -1
def plR (p : Int32) : Prop := 1 ≤ p.toInt ∧ p.toInt ≤ 999
def hoS : Nat → Nat → Prop := fun r a => goS r a ∨ (r = 454 ∧ a = 0)
section RoomC
variable {d : Nat} {I : MI} {L : ML} {R : RD} {s : SA} {P : List SA}
theorem w_room {m : Nat} {w : Int32} {K : Int32 → MI → ML → Prop} (hd : 7 ≤ d) (hO : CoO R s P) (hc : CoC I R s P) (hr : RgA I R) (em : s.2.2.2.1 = nI m) (hm : m ≤ 9) (h2 : ¬ (0 ≤ w.toInt ∧ w.toInt < rW R) → K (-2) I L) (h : 0 ≤ w.toInt → w.toInt < rW R → ∀ x I', rmP R m w.toInt.toNat x → CoC I' R s P → Same cdS I I' → K x I' L) : CI d m_W_room [vR 0 0, vI w] I L K := by
  have hR := hO.1
  have hW := hR.2.1
  have hlen := DL_len hR
  refine toCI (n := 6) hd (r_W_room_0 (c_Road_hasWait (by omega) hR hc.1 (fun g1 g2 => ⟨fun _ => ?_, fun q => absurd (by decide) q⟩) (fun g => ⟨fun q => absurd rfl q, fun _ => ⟨_, rfl, h2 g⟩⟩)))
  have fin := h g1 g2
  have e1 := ge_nI g1
  have b1 : w.toInt.toNat < rW R := by omega
  clear g1 g2 h2 h
  generalize w.toInt.toNat = w' at *
  subst e1
  have space : (∃ i, i < (DL R).length ∧ (rgK R i).testBit w' = true) → CI 6 m_Rg_spaceOf [vR 448 0, vI (nI w')] I L (fun x9 I7 L8 => (0 ≤ x9 → (∃ x, some (vI x9) = some (vI x) ∧ K x I7 L8)) ∧ (¬ (0 ≤ x9) → (∃ x, some (vI (x9 - (1000000 : Int32))) = some (vI x) ∧ K x I7 L8))) := by
    intro hex
    refine toCI (n := 5) (by omega) (r_Rg_spaceOf_0 ?_)
    have key : ∀ (b j : Nat) (y : Int32) (J : MI), j + b = (DL R).length → ((y = 2147483647 ∧ ∀ i, i < j → (rgK R i).testBit w' = false) ∨ ∃ i, i < j ∧ (rgK R i).testBit w' = true ∧ y.toInt = vrN R m (rgK R i) ∧ ∀ i', i' < j → (rgK R i').testBit w' = true → vrN R m (rgK R i) ≤ vrN R m (rgK R i')) → CoC J R s P → RgA J R → Same goS I J → XX (5 + 1) m_Rg_spaceOf (fun r I' L' => ∃ x, r = some (vI x) ∧ (fun x9 I7 L8 => (0 ≤ x9 → (∃ x, some (vI x9) = some (vI x) ∧ K x I7 L8)) ∧ (¬ (0 ≤ x9) → (∃ x, some (vI (x9 - (1000000 : Int32))) = some (vI x) ∧ K x I7 L8))) x I' L') 5 [vR 448 0, vI (nI w'), vI y, vI (nI j)] [] J L := by
      intro b
      induction b with
      | zero =>
        intro j y J hj hy hcJ hrJ hS
        refine r_Rg_spaceOf_5 ?_
        rw [hrJ.1]
        refine ⟨fun _ => ⟨_, rfl, ?_⟩, fun q => absurd (nI_le (show (DL R).length ≤ j by omega) (by omega)) q⟩
        rcases hy with ⟨_, hy⟩ | ⟨i, hi, hb, hv, hy⟩
        · obtain ⟨i, hi, hb⟩ := hex
          rw [hy i (by omega)] at hb
          exact absurd hb (by decide)
        · have pr : ∀ x, x = (if 0 ≤ y then y else y - (1000000 : Int32)) → rmP R m w' x := fun x ex => Or.inr ⟨rgK R i, y, rgK_R hR (by omega), hb, hv, fun k' hk' hb' => by
            obtain ⟨i', hi', ei⟩ := rgK_ex hR hk'
            rw [← ei] at hb' ⊢
            exact hy i' (by omega) hb', ex⟩
          exact ⟨fun q => ⟨_, rfl, fin _ J (pr _ (by rw [if_pos q])) hcJ (go_cd hS)⟩, fun q => ⟨_, rfl, fin _ J (pr _ (by rw [if_neg q])) hcJ (go_cd hS)⟩⟩
      | succ b ih =>
        intro j y J hj hy hcJ hrJ hS
        have hjl : j < (DL R).length := by omega
        have hk := Rng_1k hR (rgK_R hR hjl)
        refine r_Rg_spaceOf_5 ?_
        rw [hrJ.1]
        refine ⟨fun q => absurd q (nI_ge hjl (by omega)), fun _ => c_Rg_ringAt (by omega) hR hrJ hjl ?_⟩
        rw [bit_1 hk (by omega), nI_1]
        by_cases e : (rgK R j).testBit w' = true
        · rw [if_pos e]
          refine ⟨fun q => absurd q (by decide), fun _ => c_Rg_lagsOf (by omega) hR hcJ.1 hrJ hjl (c_Rg_timesOf (by omega) hO hcJ hrJ em hm hjl (fun J2 hc2 hr2 hS2 => c_min (by omega) ?_))⟩
          rw [hcJ.1.2.2.1]
          have ev := vr_i hR (m := m) (k := rgK R j) hm
          have rv := vr_rg hR (m := m) (k := rgK R j) hm
          generalize hz : ((rP R * nI (rgL R (rgK R j))) - nI (rgT R m (rgK R j))) = z at *
          refine ih (j + 1) _ J2 (by omega) (Or.inr ?_) hc2 hr2 (hS.tr hS2)
          unfold mn
          have z7 : (2147483647 : Int32).toInt = 2147483647 := rfl
          rcases hy with ⟨ey, hy⟩ | ⟨i, hi, hb, hv, hy⟩
          · have hlt : z < y := Int32.lt_iff_toInt_lt.mpr (by rw [ey, z7, ev]; omega)
            rw [if_pos hlt]
            refine ⟨j, by omega, e, ev, fun i' hi' hb' => ?_⟩
            by_cases q : i' = j
            · rw [q]; exact Int.le_refl _
            · rw [hy i' (by omega)] at hb'; exact absurd hb' (by decide)
          · by_cases q : z < y
            · rw [if_pos q]
              have := Int32.lt_iff_toInt_lt.mp q
              refine ⟨j, by omega, e, ev, fun i' hi' hb' => ?_⟩
              by_cases q : i' = j
              · rw [q]; exact Int.le_refl _
              · have := hy i' (by omega) hb'; omega
            · rw [if_neg q]
              have := Int32.le_iff_toInt_le.mp (Int32.not_lt.mp q)
              refine ⟨i, by omega, hb, hv, fun i' hi' hb' => ?_⟩
              by_cases q : i' = j
              · rw [q]; omega
              · exact hy i' (by omega) hb'
        · rw [if_neg e]
          have e : (rgK R j).testBit w' = false := by simpa using e
          refine ⟨fun _ => ih (j + 1) y J (by omega) ?_ hcJ hrJ hS, fun q => absurd rfl q⟩
          rcases hy with ⟨ey, hy⟩ | ⟨i, hi, hb, hv, hy⟩
          · refine Or.inl ⟨ey, fun i hi => ?_⟩
            by_cases q : i = j
            · rw [q]; exact e
            · exact hy i (by omega)
          · refine Or.inr ⟨i, by omega, hb, hv, fun i' hi' hb' => ?_⟩
            by_cases q : i' = j
            · rw [q, e] at hb'; exact absurd hb' (by decide)
            · exact hy i' (by omega) hb'
    exact key (DL R).length 0 _ I (by omega) (Or.inl ⟨rfl, fun i hi => by omega⟩) hc hr Same.rf
  refine toCI (n := 5) (by omega) (r_Rg_isInRing_0 ?_)
  have key : ∀ (b j : Nat), j + b = (DL R).length → (∀ i, i < j → (rgK R i).testBit w' = false) → XX (5 + 1) m_Rg_isInRing (fun r I' L' => ∃ x, r = some (vI x) ∧ (fun x6 I4 L5 => (¬ x6 = 0 → (CI 6 m_Rg_spaceOf [vR 448 0, vI (nI w')] I4 L5 (fun x9 I7 L8 => (0 ≤ x9 → (∃ x, some (vI x9) = some (vI x) ∧ K x I7 L8)) ∧ (¬ (0 ≤ x9) → (∃ x, some (vI (x9 - (1000000 : Int32))) = some (vI x) ∧ K x I7 L8))))) ∧ (¬ (¬ x6 = 0) → (∃ x, some (vI (-1)) = some (vI x) ∧ K x I4 L5))) x I' L') 2 [vR 448 0, vI (nI w'), vI (nI j)] [] I L := by
    intro b
    induction b with
    | zero =>
      intro j hj hno
      refine r_Rg_isInRing_2 ?_
      rw [hr.1]
      refine ⟨fun _ => ⟨_, rfl, fun q => absurd rfl q, fun _ => ⟨_, rfl, fin _ I (Or.inl ⟨fun k hk => ?_, rfl⟩) hc Same.rf⟩⟩, fun q => absurd (nI_le (show (DL R).length ≤ j by omega) (by omega)) q⟩
      obtain ⟨i, hi, ei⟩ := rgK_ex hR hk
      rw [← ei]; exact hno i (by omega)
    | succ b ih =>
      intro j hj hno
      have hjl : j < (DL R).length := by omega
      have hk := Rng_1k hR (rgK_R hR hjl)
      refine r_Rg_isInRing_2 ?_
      rw [hr.1]
      refine ⟨fun q => absurd q (nI_ge hjl (by omega)), fun _ => c_Rg_ringAt (by omega) hR hr hjl ?_⟩
      rw [bit_1 hk (by omega), nI_1]
      by_cases e : (rgK R j).testBit w' = true
      · rw [if_pos e]
        exact ⟨fun q => absurd q (by decide), fun _ => ⟨_, rfl, fun _ => space ⟨j, hjl, e⟩, fun q => absurd (by decide) q⟩⟩
      · rw [if_neg e]
        refine ⟨fun _ => ih (j + 1) (by omega) (fun i hi => ?_), fun q => absurd rfl q⟩
        by_cases q : i = j
        · rw [q]; simpa using e
        · exact hno i (by omega)
  exact key (DL R).length 0 (by omega) (fun i hi => by omega)
theorem w_leave {m : Nat} {K : Int32 → MI → ML → Prop} (hd : 9 ≤ d) (hO : CoO R s P) (hc : CoC I R s P) (hr : RgA I R) (em : s.2.2.2.1 = nI m) (hm : m ≤ 9) (h : ∀ x I', lvP R m x → CoC I' R s P → Same cdS I I' → K x I' L) : CI d m_W_leave [vR 0 0] I L K := by
  have hR := hO.1
  have hW := hR.2.1
  have hlen := DL_len hR
  refine toCI (n := 8) hd (r_W_leave_0 (toCI (n := 7) (by omega) (r_Rg_bestOut_0 ?_)))
  have key : ∀ (l w : Nat) (x y : Int32) (J : MI), w + l = rW R → ((w = 0 ∧ x = -1) ∨ ∃ b, b < w ∧ x = nI b ∧ slP R m (2 ^ b) y ∧ (∀ v, v < w → mle R m b v) ∧ ∀ v, v < b → ¬ mle R m v b) → CoC J R s P → RgA J R → Same goS I J → XX (7 + 1) m_Rg_bestOut (fun r I' L' => ∃ x, r = some (vI x) ∧ (fun x3 I1 L2 => ∃ x, some (vI x3) = some (vI x) ∧ K x I1 L2) x I' L') 6 [vR 448 0, vI x, vI y, vI (nI w), vD] [] J L := by
    intro l
    induction l with
    | zero =>
      intro w x y J hw hx hcJ hrJ hS
      refine r_Rg_bestOut_6 ?_
      rw [hcJ.1.2.1]
      refine ⟨fun _ => ⟨_, rfl, _, rfl, h _ J ?_ hcJ (go_cd hS)⟩, fun q => absurd (nI_le (show rW R ≤ w by omega) (by omega)) q⟩
      have ew : w = rW R := by omega
      rw [ew] at hx
      rcases hx with ⟨e, ex⟩ | ⟨b, hb, ex, _, h1, h2⟩
      · exact Or.inl ⟨e, ex⟩
      · exact Or.inr ⟨b, hb, ex, h1, h2⟩
    | succ l ih =>
      intro w x y J hw hx hcJ hrJ hS
      refine r_Rg_bestOut_6 ?_
      rw [hcJ.1.2.1, sh_1 (by omega)]
      refine ⟨fun q => absurd q (nI_ge (show w < rW R by omega) (by omega)), fun _ => c_Rg_slowestWithout (by omega) hO hcJ hrJ em hm (fun z J1 hz hc1 hr1 hS1 => ?_)⟩
      rw [nI_1]
      rcases hx with ⟨e, ex⟩ | ⟨b, hb, ex, hy, h1, h2⟩
      · subst ex
        refine ⟨fun _ => ih (w + 1) (nI w) z J1 (by omega) (Or.inr ⟨w, by omega, rfl, hz, fun v hv => ?_, fun v hv => by omega⟩) hc1 hr1 (hS.tr hS1), fun q => absurd rfl q⟩
        rw [show v = w by omega]; exact mle_rf
      · subst ex
        refine ⟨fun q => absurd q (nI_m1 (by omega)), fun _ => ?_⟩
        -- the new one is better
        have better : ∀ J2, ¬ mle R m b w → mle R m w b → CoC J2 R s P → RgA J2 R → Same goS I J2 → XX (7 + 1) m_Rg_bestOut (fun r I' L' => ∃ x, r = some (vI x) ∧ (fun x3 I1 L2 => ∃ x, some (vI x3) = some (vI x) ∧ K x I1 L2) x I' L') 6 [vR 448 0, vI (nI w), vI z, vI (nI (w + 1)), vD] [] J2 L := by
          intro J2 hno hle hc2 hr2 hS2
          refine ih (w + 1) (nI w) z J2 (by omega) (Or.inr ⟨w, by omega, rfl, hz, fun v hv => ?_, fun v hv hv2 => ?_⟩) hc2 hr2 hS2
          · by_cases q : v = w
            · rw [q]; exact mle_rf
            · exact mle_tr hR hle (h1 v (by omega))
          · exact hno (mle_tr hR (h1 v hv) hv2)
        have worse : ∀ J2, mle R m b w → CoC J2 R s P → RgA J2 R → Same goS I J2 → XX (7 + 1) m_Rg_bestOut (fun r I' L' => ∃ x, r = some (vI x) ∧ (fun x3 I1 L2 => ∃ x, some (vI x3) = some (vI x) ∧ K x I1 L2) x I' L') 6 [vR 448 0, vI (nI b), vI y, vI (nI (w + 1)), vD] [] J2 L := by
          intro J2 hle hc2 hr2 hS2
          refine ih (w + 1) (nI b) y J2 (by omega) (Or.inr ⟨b, by omega, rfl, hy, fun v hv => ?_, h2⟩) hc2 hr2 hS2
          by_cases q : v = w
          · rw [q]; exact hle
          · exact h1 v (by omega)
        rcases hz with ⟨ez, hz⟩ | ⟨i, hi, ez, hmz⟩ <;> rcases hy with ⟨ey, hy⟩ | ⟨j, hj, ey, hmy⟩
        · subst ez ey
          exact toCI (n := 6) (by omega) (r_Rg_isBelow_0 ⟨fun _ => ⟨fun _ => ⟨_, rfl, ⟨fun _ => worse J1 (fun k hk hz' => absurd hz' (hy k hk)) hc1 hr1 (hS.tr hS1), fun q => absurd rfl q⟩⟩, fun q => absurd rfl q⟩, fun q => absurd rfl q⟩)
        · subst ez ey
          refine toCI (n := 6) (by omega) (r_Rg_isBelow_0 ⟨fun _ => ⟨fun q => absurd q (nI_m1 (by omega)), fun _ => ⟨_, rfl, ⟨fun q => absurd q (by decide), fun _ => better J1 (fun hb2 => ?_) (fun k hk hz' => absurd hz' (hz k hk)) hc1 hr1 (hS.tr hS1)⟩⟩⟩, fun q => absurd rfl q⟩)
          obtain ⟨k', r', z', _⟩ := hb2 _ hmy.1 hmy.2.1
          exact hz k' r' z'
        · subst ez ey
          exact toCI (n := 6) (by omega) (r_Rg_isBelow_0 ⟨fun q => absurd q (nI_m1 (by omega)), fun _ => ⟨fun q => absurd rfl q, fun _ => ⟨fun _ => ⟨_, rfl, ⟨fun _ => worse J1 (fun k hk hz' => absurd hz' (hy k hk)) hc1 hr1 (hS.tr hS1), fun q => absurd rfl q⟩⟩, fun q => absurd rfl q⟩⟩⟩)
        · subst ez ey
          refine c_Rg_isBelow (by omega) hO hc1 hr1 em hm hi hj (fun hp J2 hc2 hr2 hS2 => ⟨fun q => absurd q (by decide), fun _ => better J2 (fun hb2 => ?_) (fun k hk hz' => ⟨_, hmy.1, hmy.2.1, ?_⟩) hc2 hr2 ((hS.tr hS1).tr hS2)⟩) (fun hp J2 hc2 hr2 hS2 => ⟨fun _ => worse J2 (fun k hk hz' => ⟨_, hmz.1, hmz.2.1, ?_⟩) hc2 hr2 ((hS.tr hS1).tr hS2), fun q => absurd rfl q⟩)
          · obtain ⟨k', r', z', p'⟩ := hb2 _ hmy.1 hmy.2.1
            exact hp (ple_tr hR r' p' (hmz.2.2 k' r' z'))
          · have hp' : ple R m (rgK R i) (rgK R j) := by unfold ple at hp ⊢; omega
            exact ple_tr hR hmz.1 (hmz.2.2 k hk hz') hp'
          · exact ple_tr hR hmy.1 (hmy.2.2 k hk hz') hp
  exact key (rW R) 0 (-1) (-1) I (by omega) (Or.inl ⟨rfl, rfl⟩) hc hr Same.rf
end RoomC

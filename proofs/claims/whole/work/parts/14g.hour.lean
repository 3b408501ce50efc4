/-! hour, leaves: the program -/
def cdR : Nat → Nat → Prop := fun r a => cdS r a ∨ ((r = 453 ∨ r = 454) ∧ a = 0)
theorem cd_R {I I' : MI} (h : Same cdS I I') : Same cdR I I' := h.mono (fun _ _ q => Or.inl q)
def hA4 (I : MI) (g : Nat → Int32) : Prop := ∀ c, c < 6 → I 454 0 c = g c
def fsP (R : RD) (m p o : Nat) : Prop := ∀ k, Rng R k → ¬ rgT R m k ≤ p * rgL R k → k &&& o ≠ 0
def bsP (R : RD) (m p b : Nat) : Prop := b < 2 ^ rW R ∧ fsP R m p b ∧ ∀ o, o < 2 ^ rW R → fsP R m p o → popc 10 b < popc 10 o ∨ (popc 10 b = popc 10 o ∧ b ≤ o)
theorem bsP_1 {R : RD} {m p a b : Nat} (h1 : bsP R m p a) (h2 : bsP R m p b) : a = b := by
  have x1 := h1.2.2 b h2.1 h2.2.1
  have x2 := h2.2.2 a h1.1 h1.2.1
  omega
theorem full_tab : ((List.range 11).all fun W => (List.range (2 ^ W)).all fun o => decide (o = 2 ^ W - 1 ∨ popc 10 o < popc 10 (2 ^ W - 1))) = true := by decide +kernel
theorem full_1 {W o : Nat} (hW : W ≤ 10) (ho : o < 2 ^ W) : o = 2 ^ W - 1 ∨ popc 10 o < popc 10 (2 ^ W - 1) := of_decide_eq_true (List.all_eq_true.mp (List.all_eq_true.mp full_tab W (List.mem_range.mpr (by omega))) o (List.mem_range.mpr ho))
theorem fs_full {R : RD} {m p : Nat} : fsP R m p (2 ^ rW R - 1) := by
  intro k hk _
  obtain ⟨h1, h2⟩ := Rng_lt hk
  rw [Nat.and_two_pow_sub_one_eq_mod, Nat.mod_eq_of_lt h1]
  exact h2
theorem ps_n {R : RD} {m o n : Nat} {p : Int32} {h : Nat → Int32} (hn : ¬ (o.testBit n = false ∧ (psN R m p o h n).1 (rt R n) < ((psN R m p o h n).1 (rf R n) + nI (tN R m n)) - nI (rl R n) * p)) : psN R m p o h (n + 1) = psN R m p o h n := by
  simp only [psN]
  rw [if_neg hn]
theorem ps_y {R : RD} {m o n : Nat} {p : Int32} {h : Nat → Int32} (hn : o.testBit n = false ∧ (psN R m p o h n).1 (rt R n) < ((psN R m p o h n).1 (rf R n) + nI (tN R m n)) - nI (rl R n) * p) : psN R m p o h (n + 1) = (fun c => if c = rt R n then ((psN R m p o h n).1 (rf R n) + nI (tN R m n)) - nI (rl R n) * p else (psN R m p o h n).1 c, true) := by
  simp only [psN]
  rw [if_pos hn]
section HourC
variable {d : Nat} {I : MI} {L : ML} {R : RD} {s : SA} {P : List SA}
theorem CoC_453 {r k : Nat} {x : Int32} (hr : r = 453 ∨ r = 454) (hc : CoC I R s P) : CoC (ui I r 0 k x) R s P := by
  have hS : Same (fun r' a => r' = r ∧ a = 0) I (ui I r 0 k x) := Same.rf.ui ⟨rfl, rfl⟩
  have n : ∀ r', r' ≠ r → ui I r 0 k x r' 0 = I r' 0 := fun r' hr' => hS r' 0 (fun q => hr' q.1)
  refine ⟨hc.1.same hS (fun r h1 h2 q => by have := q.1; omega), hc.2.1.same hS (fun q => by have := q.1; omega) (fun q => by have := q.1; omega) (fun q => by have := q.1; omega) (fun q => by have := q.1; omega), ?_, hc.2.2.2.same hS (fun q => by have := q.1; omega) (fun r a h1 h2 _ _ q => by have := q.1; omega)⟩
  have h := hc.2.2.1
  have e8 : ui I r 0 k x 320 0 8 = I 320 0 8 := by rw [n 320 (by omega)]
  have ek : knA (ui I r 0 k x) R := fun w hw k hk => by rw [n 328 (by omega)]; exact h.2.2.2 w hw k hk
  exact GoA_of h (n 325 (by omega)) (fun c _ _ => by rw [n 326 (by omega)]) e8 (n 323 (by omega)) (n 324 (by omega)) ek
theorem RgA_453 {r k : Nat} {x : Int32} (hr : r = 453 ∨ r = 454) (h : RgA I R) : RgA (ui I r 0 k x) R := RgA_same (S := fun r' a => r' = r ∧ a = 0) h (Same.rf.ui ⟨rfl, rfl⟩) (fun q => by have := q.1; omega) (fun q => by have := q.1; omega)
theorem c_Rg_putOff {m : Nat} {p : Int32} {g : Nat → Int32} {K : Int32 → MI → ML → Prop} (hd : 6 ≤ d) (hO : CoO R s P) (hc : CoC I R s P) (hr : RgA I R) (em : s.2.2.2.1 = nI m) (hm : m ≤ 9) (hg : hA4 I g) (h : ∀ I', hA4 I' (psN R m p 0 g (rW R)).1 → CoC I' R s P → RgA I' R → Same cdR I I' → K (if (psN R m p 0 g (rW R)).2 = true then 1 else 0) I' L) : CI d m_Rg_putOff [vR 448 0, vI p] I L K := by
  have hR := hO.1
  have hW := hR.2.1
  have hC := hR.1
  refine toCI (n := 5) hd (r_Rg_putOff_0 ?_)
  have key : ∀ (b w : Nat) (J : MI), w + b = rW R → hA4 J (psN R m p 0 g w).1 → CoC J R s P → RgA J R → Same cdR I J → XX (5 + 1) m_Rg_putOff (fun r I' L' => ∃ x, r = some (vI x) ∧ K x I' L') 4 [vR 448 0, vI p, vI (if (psN R m p 0 g w).2 = true then 1 else 0), vI (nI w), vD, vD, vD] [] J L := by
    intro b
    induction b with
    | zero =>
      intro w J hw hgJ hcJ hrJ hS
      refine r_Rg_putOff_4 ?_
      rw [hcJ.1.2.1]
      refine ⟨fun _ => ⟨by split <;> simp, _, rfl, ?_⟩, fun q => absurd (nI_le (show rW R ≤ w by omega) (by omega)) q⟩
      rw [show w = rW R by omega] at hgJ ⊢
      exact h J hgJ hcJ hrJ hS
    | succ b ih =>
      intro w J hw hgJ hcJ hrJ hS
      obtain ⟨a1, a2, _, a4⟩ := hcJ.1.2.2.2.2.2.1 w (by omega)
      obtain ⟨b1, b2, _, _⟩ := hR.2.2.1 w (by omega)
      have nxt := ih (w + 1)
      refine r_Rg_putOff_4 ?_
      rw [hcJ.1.2.1]
      refine ⟨fun q => absurd q (nI_ge (show w < rW R by omega) (by omega)), fun _ => c_Road_fromOf (by omega) (by omega) (c_Road_toOf (by omega) (by omega) ?_)⟩
      rw [a1, a2, cl_n (by omega), cl_n (by omega)]
      refine ⟨fun q => absurd q (nlt0 (by omega)), fun _ => ⟨fun q => absurd q (nle_c (m := 6) (by omega) (by omega)), fun _ => ⟨fun q => absurd q (nlt0 (by omega)), fun _ => ⟨fun q => absurd q (nle_c (m := 6) (by omega) (by omega)), fun _ => ⟨vin (by omega) (by omega), ?_⟩⟩⟩⟩⟩
      rw [hcJ.2.1.2.2.2.1, em, hgJ _ (by omega)]
      refine c_Go_timeOf (by omega) hR hcJ.1 hcJ.2.2.1 (by omega) hm (fun J1 hG1 hS1 => c_Road_lagOf (by omega) (by omega) ?_)
      have hS1 := rm_go hS1
      have hc1 := CoC_go hcJ hG1 hS1
      have hr1 := RgA_same hrJ hS1 (go_no448 (Or.inl rfl)) (go_no448 (Or.inr rfl))
      have e54 : J1 454 0 = J 454 0 := hS1 454 0 (fun q => by rcases q.1 with y | y | y | y | y | y | y | y | y <;> omega)
      obtain ⟨_, _, _, a4'⟩ := hc1.1.2.2.2.2.2.1 w (by omega)
      have hS2 : Same cdR I J1 := hS.tr (cd_R (go_cd hS1))
      rw [a4', e54, hgJ _ (by omega), (tN_ok hR (show w < rW R by omega) hm).1, nI_1]
      have z0 : (0 : Nat).testBit w = false := by simp
      refine ⟨vin (by omega) (by omega), fun q => ⟨vin (by omega) (by omega), c_max (by omega) ⟨vin (by omega) (by omega), ?_⟩⟩, fun q => ⟨vin (by omega) (by omega), c_max (by omega) ⟨vin (by omega) (by omega), ?_⟩⟩⟩
      · have hno : ¬ (psN R m p 0 g w).1 (rt R w) < (((psN R m p 0 g w).1 (rf R w) + nI (tN R m w)) - nI (rl R w) * p) := Int32.not_lt.mpr q
        have hno2 : ¬ ((0 : Nat).testBit w = false ∧ (psN R m p 0 g w).1 (rt R w) < (((psN R m p 0 g w).1 (rf R w) + nI (tN R m w)) - nI (rl R w) * p)) := fun y => hno y.2
        unfold mx
        rw [if_neg hno, Int32.or_zero]
        rw [ps_n hno2] at nxt
        refine nxt _ (by omega) (fun c hc6 => ?_) (CoC_453 (Or.inr rfl) hc1) (RgA_453 (Or.inr rfl) hr1) (hS2.ui (Or.inr ⟨Or.inr rfl, rfl⟩))
        by_cases y : c = rt R w
        · rw [y, ui_s]
        · rw [ui_k y, e54]; exact hgJ c hc6
      · have hyes : (psN R m p 0 g w).1 (rt R w) < (((psN R m p 0 g w).1 (rf R w) + nI (tN R m w)) - nI (rl R w) * p) := Int32.not_le.mp q
        have hyes2 : (0 : Nat).testBit w = false ∧ (psN R m p 0 g w).1 (rt R w) < (((psN R m p 0 g w).1 (rf R w) + nI (tN R m w)) - nI (rl R w) * p) := ⟨z0, hyes⟩
        have e1 : (if (psN R m p 0 g w).2 = true then (1 : Int32) else 0) ||| 1 = 1 := by split <;> decide
        unfold mx
        rw [if_pos hyes, e1]
        rw [ps_y hyes2] at nxt
        refine nxt _ (by omega) (fun c hc6 => ?_) (CoC_453 (Or.inr rfl) hc1) (RgA_453 (Or.inr rfl) hr1) (hS2.ui (Or.inr ⟨Or.inr rfl, rfl⟩))
        show _ = if c = rt R w then (((psN R m p 0 g w).1 (rf R w) + nI (tN R m w)) - nI (rl R w) * p) else (psN R m p 0 g w).1 c
        by_cases y : c = rt R w
        · rw [y, ui_s, if_pos rfl]
        · rw [ui_k y, e54, if_neg y]; exact hgJ c hc6
  exact key (rW R) 0 I (by omega) hg hc hr Same.rf
theorem w_hour {m : Nat} {c p : Int32} {K : Int32 → MI → ML → Prop} (hd : 8 ≤ d) (hO : CoO R s P) (hc : CoC I R s P) (hr : RgA I R) (em : s.2.2.2.1 = nI m) (hm : m ≤ 9) (h2 : ¬ isC R c → K (-2) I L) (h3 : isC R c → ¬ plR p → K (-3) I L) (h : isC R c → plR p → ∀ I', CoC I' R s P → RgA I' R → Same cdR I I' → K (hrO R m p c.toInt.toNat) I' L) : CI d m_W_hour [vR 0 0, vI c, vI p] I L K := by
  have hR := hO.1
  have hC := hR.1
  have z1 : (1 : Int32).toInt = 1 := rfl
  have z9 : (999 : Int32).toInt = 999 := rfl
  refine toCI (n := 7) hd (r_W_hour_0 (c_W_isCoach (by omega) hR hc.1 (fun g1 g2 => ⟨fun _ => ⟨fun q => ⟨_, rfl, h3 ⟨g1, g2⟩ (fun z => ?_)⟩, fun q => ⟨fun q2 => ?_, fun q2 => ⟨_, rfl, h3 ⟨g1, g2⟩ (fun z => ?_)⟩⟩⟩, fun q => absurd (by decide) q⟩) (fun g => ⟨fun q => absurd rfl q, fun _ => ⟨_, rfl, h2 g⟩⟩)))
  · have := Int32.lt_iff_toInt_lt.mp q; have := z.1; omega
  · have a1 := Int32.le_iff_toInt_le.mp (Int32.not_lt.mp q)
    have a2 := Int32.le_iff_toInt_le.mp q2
    have fin := h ⟨g1, g2⟩ ⟨by omega, by omega⟩
    have e1 := ge_nI g1
    have b1 : c.toInt.toNat < rC R := by omega
    clear g1 g2 h2 h3 h
    generalize c.toInt.toNat = c' at *
    subst e1
    refine toCI (n := 6) (by omega) (r_Rg_keepingHour_0 (c_fillR (by omega) (fun I1 h0 hS1 => ?_)))
    have hc1 : CoC I1 R s P := by
      have n : ∀ r', r' ≠ 454 → I1 r' 0 = I r' 0 := fun r' hr' => hS1 r' 0 (fun q => hr' q.1)
      refine ⟨hc.1.same hS1 (fun r h1 h2 q => by have := q.1; omega), hc.2.1.same hS1 (fun q => by have := q.1; omega) (fun q => by have := q.1; omega) (fun q => by have := q.1; omega) (fun q => by have := q.1; omega), ?_, hc.2.2.2.same hS1 (fun q => by have := q.1; omega) (fun r a h1 h2 _ _ q => by have := q.1; omega)⟩
      have h := hc.2.2.1
      have e8 : I1 320 0 8 = I 320 0 8 := by rw [n 320 (by omega)]
      have ek : knA I1 R := fun w hw k hk => by rw [n 328 (by omega)]; exact h.2.2.2 w hw k hk
      exact GoA_of h (n 325 (by omega)) (fun c _ _ => by rw [n 326 (by omega)]) e8 (n 323 (by omega)) (n 324 (by omega)) ek
    have hr1 : RgA I1 R := RgA_same hr hS1 (fun q => by have := q.1; omega) (fun q => by have := q.1; omega)
    have hSR : Same cdR I I1 := hS1.mono (fun r a q => Or.inr ⟨Or.inr q.1, q.2⟩)
    unfold hrO at fin
    have key : ∀ (f i : Nat) (g : Nat → Int32) (J : MI), i + f = 7 → kpN R m p 0 f g = kpN R m p 0 7 (fun _ => 0) → hA4 J g → CoC J R s P → RgA J R → Same cdR I J → XX (6 + 1) m_Rg_keepingHour (fun r I' L' => ∃ x, r = some (vI x) ∧ (fun x6 I4 L5 => ∃ x, some (vI x6) = some (vI x) ∧ K x I4 L5) x I' L') 10 [vR 448 0, vI (nI c'), vI p, vI (nI i)] [] J L := by
      intro f
      induction f with
      | zero =>
        intro i g J hi he hg hcJ hrJ hS
        have ei : i = 7 := by omega
        subst ei
        rw [← he] at fin
        exact r_Rg_keepingHour_10 ⟨fun _ => ⟨_, rfl, _, rfl, fin J hcJ hrJ hS⟩, fun q => absurd (by decide) q⟩
      | succ f ih =>
        intro i g J hi he hg hcJ hrJ hS
        refine r_Rg_keepingHour_10 ⟨fun q => absurd q (nI_nlt (a := 6) (b := i) (by omega) (by omega)), fun _ => c_Rg_putOff (by omega) hO hcJ hrJ em hm hg (fun J2 hg2 hc2 hr2 hS2 => ?_)⟩
        have he2 : kpN R m p 0 (f + 1) g = if (psN R m p 0 g (rW R)).2 = true then kpN R m p 0 f (psN R m p 0 g (rW R)).1 else some (psN R m p 0 g (rW R)).1 := rfl
        rw [he2] at he
        by_cases y : (psN R m p 0 g (rW R)).2 = true
        · rw [if_pos y] at he ⊢
          rw [nI_1]
          exact ⟨fun _ => ih (i + 1) _ J2 (by omega) he hg2 hc2 hr2 (hS.tr hS2), fun q => absurd (by decide) q⟩
        · rw [if_neg y] at he ⊢
          rw [← he] at fin
          rw [cl_n (by omega), hg2 c' (by omega)]
          exact ⟨fun q => absurd rfl q, fun _ => ⟨fun q => absurd q (nlt0 (by omega)), fun _ => ⟨fun q => absurd q (nle_c (m := 6) (by omega) (by omega)), fun _ => ⟨vin (by omega) (by omega), _, rfl, _, rfl, fin J2 hc2 hr2 (hS.tr hS2)⟩⟩⟩⟩
    exact key 7 0 _ I1 (by omega) rfl h0 hc1 hr1 hSR
  · have := Int32.lt_iff_toInt_lt.mp (Int32.not_le.mp q2); have := z.2; omega
theorem c_Rg_breaksAll {o : Nat} {l : List Nat} {K : Int32 → MI → ML → Prop} (hd : 1 ≤ d) (hl : l.length ≤ 1023) (hI : ∀ a, a < l.length → I 453 0 a = nI (l.getD a 0)) (hk : ∀ k, k ∈ l → k < 1024) (h1 : (∀ k, k ∈ l → k &&& o ≠ 0) → K 1 I L) (h0 : ¬ (∀ k, k ∈ l → k &&& o ≠ 0) → K 0 I L) : CI d m_Rg_breaksAll [vR 448 0, vI (nI o), vI (nI l.length)] I L K := by
  refine toCI (n := 0) hd (r_Rg_breaksAll_0 ?_)
  have mem : ∀ a, a < l.length → l.getD a 0 ∈ l := fun a ha => by
    rw [List.getD_eq_getElem?_getD, List.getElem?_eq_getElem ha]
    exact List.getElem_mem ha
  have key : ∀ (b a : Nat), a + b = l.length → (∀ i, i < a → l.getD i 0 &&& o ≠ 0) → XX (0 + 1) m_Rg_breaksAll (fun r I' L' => ∃ x, r = some (vI x) ∧ K x I' L') 2 [vR 448 0, vI (nI o), vI (nI l.length), vI (nI a)] [] I L := by
    intro b
    induction b with
    | zero =>
      intro a ha hn
      refine r_Rg_breaksAll_2 ⟨fun _ => ⟨_, rfl, h1 (fun k hk' => ?_)⟩, fun q => absurd (nI_le (show l.length ≤ a by omega) (by omega)) q⟩
      obtain ⟨i, hi, e⟩ := List.mem_iff_getElem.mp hk'
      have := hn i (by omega)
      rw [List.getD_eq_getElem?_getD, List.getElem?_eq_getElem hi] at this
      rw [← e]; exact this
    | succ b ih =>
      intro a ha hn
      have hal : a < l.length := by omega
      refine r_Rg_breaksAll_2 ?_
      rw [cl_n (by omega), hI a hal, nI_1]
      refine ⟨fun q => absurd q (nI_ge hal (by omega)), fun _ => ⟨fun q => absurd q (nle_c (m := 1024) (by omega) (by omega)), fun _ => ⟨vin (by omega) (by omega), fun q => ih (a + 1) (by omega) (fun i hi => ?_), fun q => ⟨_, rfl, h0 (fun z => ?_)⟩⟩⟩⟩
      · by_cases y : i = a
        · rw [y]; exact fun z => q ((and_0 (hk _ (mem a hal))).mpr z)
        · exact hn i (by omega)
      · exact z _ (mem a hal) ((and_0 (hk _ (mem a hal))).mp (Classical.not_not.mp q))
  exact key l.length 0 (by omega) (fun i hi => by omega)
theorem w_leaves {m : Nat} {p w : Int32} {K : Int32 → MI → ML → Prop} (hd : 7 ≤ d) (hO : CoO R s P) (hc : CoC I R s P) (hr : RgA I R) (em : s.2.2.2.1 = nI m) (hm : m ≤ 9) (h2 : ¬ lwR w → K (-2) I L) (h3 : lwR w → ¬ plR p → K (-3) I L) (h : lwR w → plR p → ∀ b, bsP R m p.toInt.toNat b → ∀ I', CoC I' R s P → RgA I' R → Same cdR I I' → K (if w = 0 then nI (popc 10 b) else nI b) I' L) : CI d m_W_leaves [vR 0 0, vI p, vI w] I L K := by
  have hR := hO.1
  have hC := hR.1
  have hW := hR.2.1
  have hlen := DL_len hR
  have z0 : (0 : Int32).toInt = 0 := rfl
  have z1 : (1 : Int32).toInt = 1 := rfl
  have z9 : (999 : Int32).toInt = 999 := rfl
  have hW2 : 2 ^ rW R ≤ 1024 := Nat.pow_le_pow_right (n := 2) (j := 10) (by omega) hW
  have hWp : 0 < 2 ^ rW R := Nat.pow_pos (by omega)
  refine toCI (n := 6) hd (r_W_leaves_0 ⟨fun q => ⟨_, rfl, h2 (fun z => ?_)⟩, fun q => ⟨fun q2 => ?_, fun q2 => ⟨_, rfl, h2 (fun z => ?_)⟩⟩⟩)
  · have := Int32.lt_iff_toInt_lt.mp q; have := z.1; omega
  · have a1 := Int32.le_iff_toInt_le.mp (Int32.not_lt.mp q)
    have a2 := Int32.le_iff_toInt_le.mp q2
    have hw : lwR w := ⟨by omega, by omega⟩
    refine ⟨fun q => ⟨_, rfl, h3 hw (fun z => ?_)⟩, fun q => ⟨fun q2 => ?_, fun q2 => ⟨_, rfl, h3 hw (fun z => ?_)⟩⟩⟩
    · have := Int32.lt_iff_toInt_lt.mp q; have := z.1; omega
    · have a3 := Int32.le_iff_toInt_le.mp (Int32.not_lt.mp q)
      have a4 := Int32.le_iff_toInt_le.mp q2
      have fin := h hw ⟨by omega, by omega⟩
      have e1 := ge_nI (a := p) (by omega)
      have b1 : p.toInt.toNat ≤ 999 := by omega
      clear q q2 h2 h3 h a3 a4
      generalize p.toInt.toNat = p' at *
      subst e1
      refine toCI (n := 5) (by omega) (r_Rg_fewestOut_0 ?_)
      have out : ∀ (J : MI) (l : List Nat), l.length ≤ 1023 → (∀ a, a < l.length → J 453 0 a = nI (l.getD a 0)) → (∀ k, k ∈ l ↔ Rng R k ∧ ¬ rgT R m k ≤ p' * rgL R k) → CoC J R s P → RgA J R → Same cdR I J → XX (5 + 1) m_Rg_fewestOut (fun r I' L' => ∃ x, r = some (vI x) ∧ (fun x3 I1 L2 => (¬ w = 0 → (∃ x, some (vI x3) = some (vI x) ∧ K x I1 L2)) ∧ (¬ (¬ w = 0) → (CI 6 m_Int_bitCount [vI x3] I1 L2 (fun x6 I4 L5 => ∃ x, some (vI x6) = some (vI x) ∧ K x I4 L5)))) x I' L') 69 [vR 448 0, vD, vI (nI l.length), vI (((1 : Int32) <<< (nI (rW R) &&& 31)) - (1 : Int32)), vI 0] [] J L := by
        intro J l hl hI hmem hcJ hrJ hS
        have hk : ∀ k, k ∈ l → k < 1024 := fun k hk' => Rng_1k hR ((hmem k).mp hk').1
        have hfs : ∀ o, (∀ k, k ∈ l → k &&& o ≠ 0) ↔ fsP R m p' o := fun o => ⟨fun z k h1 h2 => z k ((hmem k).mpr ⟨h1, h2⟩), fun z k hk' => z k ((hmem k).mp hk').1 ((hmem k).mp hk').2⟩
        have key : ∀ (f o b : Nat), o + f = 2 ^ rW R → b < 2 ^ rW R → fsP R m p' b → (b = 2 ^ rW R - 1 ∨ b < o) → (∀ o', o' < o → fsP R m p' o' → popc 10 b < popc 10 o' ∨ (popc 10 b = popc 10 o' ∧ b ≤ o')) → XX (5 + 1) m_Rg_fewestOut (fun r I' L' => ∃ x, r = some (vI x) ∧ (fun x3 I1 L2 => (¬ w = 0 → (∃ x, some (vI x3) = some (vI x) ∧ K x I1 L2)) ∧ (¬ (¬ w = 0) → (CI 6 m_Int_bitCount [vI x3] I1 L2 (fun x6 I4 L5 => ∃ x, some (vI x6) = some (vI x) ∧ K x I4 L5)))) x I' L') 69 [vR 448 0, vD, vI (nI l.length), vI (nI b), vI (nI o)] [] J L := by
          intro f
          induction f with
          | zero =>
            intro o b ho hb hf hbo hall
            refine r_Rg_fewestOut_69 ?_
            rw [hcJ.1.2.1, sh_1 hW]
            have hbs : bsP R m p' b := ⟨hb, hf, fun o' ho' hf' => hall o' (by omega) hf'⟩
            have fb := fin b hbs J hcJ hrJ hS
            refine ⟨fun _ => ⟨_, rfl, fun q => ⟨_, rfl, ?_⟩, fun q => c_bc (by omega) (fun y hy => ⟨_, rfl, ?_⟩)⟩, fun q => absurd (nI_le (show 2 ^ rW R ≤ o by omega) (by omega)) q⟩
            · rw [if_neg q] at fb; exact fb
            · rw [hy b (by omega) rfl]
              rw [if_pos (Classical.not_not.mp q)] at fb; exact fb
          | succ f ih =>
            intro o b ho hb hf hbo hall
            have p10 : ∀ k, k < 1024 → popc 10 k ≤ 10 := fun k hk' => by
              rw [pop_sb hk']
              exact sb_le (f := fun _ => 1) (k := k) (B := 1) 10 (fun _ _ => Nat.le_refl _)
            refine r_Rg_fewestOut_69 ?_
            rw [hcJ.1.2.1, sh_1 hW]
            refine ⟨fun q => absurd q (nI_ge (show o < 2 ^ rW R by omega) (by omega)), fun _ => c_bc (by omega) (fun y hy => c_bc (by omega) (fun y2 hy2 => ?_))⟩
            have hy := hy o (by omega) rfl
            have hy2 := hy2 b (by omega) rfl
            subst hy hy2
            have q1 := p10 o (by omega)
            have q2 := p10 b (by omega)
            rw [nI_1]
            refine ⟨fun q => ?_, fun q => ?_⟩
            · have hle := (nI_leI (by omega) (by omega)).mp q
              refine ih (o + 1) b (by omega) hb hf (hbo.elim Or.inl (fun z => Or.inr (by omega))) (fun o' ho' hf' => ?_)
              by_cases y : o' = o
              · subst y
                rcases Nat.lt_or_ge (popc 10 b) (popc 10 o') with z | z
                · exact Or.inl z
                · refine Or.inr ⟨by omega, ?_⟩
                  rcases hbo with e | e
                  · rcases full_1 hW (show o' < 2 ^ rW R by omega) with e2 | e2
                    · omega
                    · rw [e] at hle; omega
                  · omega
              · exact hall o' (by omega) hf'
            · have hlt : popc 10 o < popc 10 b := by
                rcases Nat.lt_or_ge (popc 10 o) (popc 10 b) with z | z
                · exact z
                · exact absurd (nI_le z (by omega)) q
              refine c_Rg_breaksAll (by omega) hl hI hk (fun hy => ⟨fun q => absurd q (by decide), fun _ => ih (o + 1) o (by omega) (by omega) ((hfs o).mp hy) (Or.inr (by omega)) (fun o' ho' hf' => ?_)⟩) (fun hn => ⟨fun _ => ih (o + 1) b (by omega) hb hf (hbo.elim Or.inl (fun z => Or.inr (by omega))) (fun o' ho' hf' => ?_), fun q => absurd rfl q⟩)
              · by_cases y : o' = o
                · rw [y]; exact Or.inr ⟨rfl, Nat.le_refl _⟩
                · have := hall o' (by omega) hf'; exact Or.inl (by omega)
              · by_cases y : o' = o
                · rw [y] at hf'; exact absurd ((hfs o).mpr hf') hn
                · exact hall o' (by omega) hf'
        have e1 : ((1 : Int32) <<< (nI (rW R) &&& 31)) - (1 : Int32) = nI (2 ^ rW R - 1) := by
          rw [sh_1 hW, show (1 : Int32) = nI 1 from rfl, nI_sub (by omega)]
        rw [e1]
        exact key (2 ^ rW R) 0 (2 ^ rW R - 1) (by omega) (by omega) fs_full (Or.inl rfl) (fun o' ho' => by omega)
      have key : ∀ (b j : Nat) (l : List Nat) (J : MI), j + b = (DL R).length → l.length ≤ j → (∀ a, a < l.length → J 453 0 a = nI (l.getD a 0)) → (∀ k, k ∈ l ↔ ∃ i, i < j ∧ rgK R i = k ∧ ¬ rgT R m k ≤ p' * rgL R k) → CoC J R s P → RgA J R → Same cdR I J → XX (5 + 1) m_Rg_fewestOut (fun r I' L' => ∃ x, r = some (vI x) ∧ (fun x3 I1 L2 => (¬ w = 0 → (∃ x, some (vI x3) = some (vI x) ∧ K x I1 L2)) ∧ (¬ (¬ w = 0) → (CI 6 m_Int_bitCount [vI x3] I1 L2 (fun x6 I4 L5 => ∃ x, some (vI x6) = some (vI x) ∧ K x I4 L5)))) x I' L') 4 [vR 448 0, vI (nI p'), vI (nI l.length), vI (nI j), vD] [] J L := by
        intro b
        induction b with
        | zero =>
          intro j l J hj hl hI hmem hcJ hrJ hS
          refine r_Rg_fewestOut_4 ?_
          rw [hrJ.1, hcJ.1.2.1]
          refine ⟨fun _ => out J l (by omega) hI (fun k => (hmem k).trans ⟨?_, ?_⟩) hcJ hrJ hS, fun q => absurd (nI_le (show (DL R).length ≤ j by omega) (by omega)) q⟩
          · rintro ⟨i, hi, e, hs⟩; exact ⟨e ▸ rgK_R hR (by omega), hs⟩
          · rintro ⟨hk, hs⟩
            obtain ⟨i, hi, e⟩ := rgK_ex hR hk
            exact ⟨i, by omega, e, hs⟩
        | succ b ih =>
          intro j l J hj hl hI hmem hcJ hrJ hS
          have hjl : j < (DL R).length := by omega
          have hRj := rgK_R hR hjl
          have t1 := rgT_le hR (m := m) (k := rgK R j) hm
          have l1 := rgL_le hR (k := rgK R j)
          have p1 := Nat.mul_le_mul b1 l1
          refine r_Rg_fewestOut_4 ?_
          rw [hrJ.1]
          refine ⟨fun q => absurd q (nI_ge hjl (by omega)), fun _ => ⟨fun q => absurd q (nle_c (m := 1024) (by omega) (by omega)), fun _ => c_Rg_timesOf (by omega) hO hcJ hrJ em hm hjl (fun J2 hc2 hr2 hS2 => c_Rg_lagsOf (by omega) hR hc2.1 hr2 hjl ?_)⟩⟩
          have hS3 := hS.tr (cd_R (go_cd hS2))
          have e53 : J2 453 0 = J 453 0 := hS2 453 0 (fun q => by rcases q.1 with y | y | y | y | y | y | y | y | y <;> omega)
          rw [pk_mul, nI_1]
          refine ⟨fun q => ?_, fun q => c_Rg_ringAt (by omega) hR hr2 hjl ?_⟩
          · have hle := (nI_leI (by omega) (by omega)).mp q
            refine ih (j + 1) l J2 (by omega) (by omega) (fun a ha => by rw [e53]; exact hI a ha) (fun k => (hmem k).trans ⟨?_, ?_⟩) hc2 hr2 hS3
            · rintro ⟨i, hi, z⟩; exact ⟨i, by omega, z⟩
            · rintro ⟨i, hi, e, hs⟩
              by_cases y : i = j
              · subst y; rw [← e] at hs; exact absurd hle hs
              · exact ⟨i, by omega, e, hs⟩
          · have hgt : ¬ rgT R m (rgK R j) ≤ p' * rgL R (rgK R j) := fun z => q (nI_le z (by omega))
            rw [cl_n (by omega), nI_1]
            have := ih (j + 1) (l ++ [rgK R j]) (ui J2 453 0 l.length (nI (rgK R j))) (by omega) (by rw [List.length_append]; simp; omega) (fun a ha => ?_) (fun k => ?_) (CoC_453 (Or.inl rfl) hc2) (RgA_453 (Or.inl rfl) hr2) (hS3.ui (Or.inr ⟨Or.inl rfl, rfl⟩))
            · rw [List.length_append] at this
              exact ⟨vin (by omega) (by omega), this⟩
            · rw [List.length_append] at ha
              simp at ha
              by_cases y : a = l.length
              · rw [y, ui_s, getD_app2]
              · rw [ui_k y, getD_app1 (by omega), e53]; exact hI a (by omega)
            · rw [List.mem_append, hmem k, List.mem_singleton]
              constructor
              · rintro (⟨i, hi, z⟩ | e)
                · exact ⟨i, by omega, z⟩
                · exact ⟨j, by omega, e.symm, by rw [e]; exact hgt⟩
              · rintro ⟨i, hi, e, hs⟩
                by_cases y : i = j
                · rw [y] at e; exact Or.inr e.symm
                · exact Or.inl ⟨i, by omega, e, hs⟩
      exact key (DL R).length 0 [] I (by omega) (by simp) (fun a ha => by simp at ha) (fun k => ⟨fun z => absurd z List.not_mem_nil, fun ⟨i, z, _⟩ => by omega⟩) hc hr Same.rf
    · have := Int32.lt_iff_toInt_lt.mp (Int32.not_le.mp q2); have := z.2; omega
  · have := Int32.lt_iff_toInt_lt.mp (Int32.not_le.mp q2); have := z.2; omega
end HourC

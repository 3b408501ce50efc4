/-! a week of drawn deeds -/
def lcg (x : Int32) : Int32 := ((1103515245 : Int32) * x) + (12345 : Int32)
def hi (x b : Int32) : Int32 := ((x.toUInt32 >>> ((16 : Int32).toUInt32 &&& Int32.toUInt32 31)).toInt32) % b
/-- a deed drawn, and the number behind it -/
def drw (x : Int32) : Int32 × Int32 :=
  if 5 ≤ hi (lcg x) 6 then (((100 : Int32) + ((10 : Int32) * hi (lcg (lcg x)) 6)) + hi (lcg (lcg (lcg x))) 10, lcg (lcg (lcg x))) else
  if 3 ≤ hi (lcg x) 6 then (if hi (lcg x) 6 = 3 then (hi (lcg (lcg x)) 11, lcg (lcg x)) else ((20 : Int32) + hi (lcg (lcg x)) 10, lcg (lcg x))) else (0, lcg x)
theorem sh_n (x : Int32) : ∃ n, n < 65536 ∧ (x.toUInt32 >>> ((16 : Int32).toUInt32 &&& Int32.toUInt32 31)).toInt32 = nI n := by
  have hb : (((16 : Int32).toUInt32 &&& Int32.toUInt32 31)).toNat % 32 = 16 := by decide
  have h1 : (x.toUInt32 >>> ((16 : Int32).toUInt32 &&& Int32.toUInt32 31)).toNat < 65536 := by
    rw [UInt32.toNat_shiftRight, hb, Nat.shiftRight_eq_div_pow]
    have := x.toUInt32.toNat_lt
    omega
  refine ⟨_, h1, ?_⟩
  apply Int32.toBitVec_inj.mp
  show (x.toUInt32 >>> ((16 : Int32).toUInt32 &&& Int32.toUInt32 31)).toBitVec = _
  apply BitVec.eq_of_toNat_eq
  have e : (nI (x.toUInt32 >>> ((16 : Int32).toUInt32 &&& Int32.toUInt32 31)).toNat).toBitVec = BitVec.ofNat 32 (x.toUInt32 >>> ((16 : Int32).toUInt32 &&& Int32.toUInt32 31)).toNat := rfl
  rw [e, BitVec.toNat_ofNat]
  show (x.toUInt32 >>> ((16 : Int32).toUInt32 &&& Int32.toUInt32 31)).toNat = _
  rw [Nat.mod_eq_of_lt (by omega)]
theorem hi_n (x : Int32) {b : Nat} (hb : 0 < b) (hb2 : b < 65536) : ∃ n, n < b ∧ hi x (nI b) = nI n := by
  obtain ⟨n, hn, e⟩ := sh_n x
  refine ⟨n % b, Nat.mod_lt _ hb, ?_⟩
  unfold hi
  rw [e, ← irem_eq_mod]
  exact pk_rem (a := n) (d := b) (by omega) (by omega) (by omega)
def wkN (R : RD) : Nat → Int32 → SA → Nat → SA × Nat
  | 0, _, s, k => (s, k)
  | l + 1, x, s, k => match ddO R s (drw x).1.toInt with
    | some t => wkN R l (drw x).2 t (k + 1)
    | none => wkN R l (drw x).2 s k
theorem wkN_le {R : RD} : ∀ l x s k, (wkN R l x s k).2 ≤ k + l
  | 0, _, _, _ => Nat.le_refl _
  | l + 1, x, s, k => by
    unfold wkN
    cases ddO R s (drw x).1.toInt with
    | none => have := wkN_le (R := R) l (drw x).2 s k; show (wkN R l (drw x).2 s k).2 ≤ _; omega
    | some t => have := wkN_le (R := R) l (drw x).2 t (k + 1); show (wkN R l (drw x).2 t (k + 1)).2 ≤ _; omega
theorem wkN_Ok {R : RD} (hR : WF R) : ∀ l x s k, OkS R s → OkS R (wkN R l x s k).1
  | 0, _, _, _, h => h
  | l + 1, x, s, k, h => by
    unfold wkN
    cases e : ddO R s (drw x).1.toInt with
    | none => exact wkN_Ok hR l _ s k h
    | some t => exact wkN_Ok hR l _ t (k + 1) (ddO_Ok hR h e)
theorem wkN_y {R : RD} {l k : Nat} {x : Int32} {s t : SA} (e : ddO R s (drw x).1.toInt = some t) : wkN R (l + 1) x s k = wkN R l (drw x).2 t (k + 1) := by
  show (match ddO R s (drw x).1.toInt with | some t => wkN R l (drw x).2 t (k + 1) | none => wkN R l (drw x).2 s k) = _
  rw [e]
theorem wkN_n {R : RD} {l k : Nat} {x : Int32} {s : SA} (e : ddO R s (drw x).1.toInt = none) : wkN R (l + 1) x s k = wkN R l (drw x).2 s k := by
  show (match ddO R s (drw x).1.toInt with | some t => wkN R l (drw x).2 t (k + 1) | none => wkN R l (drw x).2 s k) = _
  rw [e]
section Week
variable {d : Nat} {I : MI} {L : ML} {R : RD} {s : SA} {P : List SA}
theorem c_W_drawn {x : Int32} {K : Int32 → MI → ML → Prop} (hd : 1 ≤ d) (h : K (lcg x) I L) : CI d m_W_drawn [vI x] I L K := toCI (n := 0) hd (r_W_drawn_0 ⟨_, rfl, h⟩)
theorem c_W_weekDeed {x a : Int32} {K : Int32 → MI → ML → Prop} (hd : 1 ≤ d) (h : K (if x = 3 then a % 11 else if x = 4 then (20 : Int32) + a % 10 else (100 : Int32) + (10 : Int32) * (a % 6)) I L) : CI d m_W_weekDeed [vI x, vI a] I L K := by
  refine toCI (n := 0) hd (r_W_weekDeed_0 ⟨fun q => ⟨_, rfl, ?_⟩, fun q => ⟨_, rfl, ?_⟩, fun q => ⟨_, rfl, ?_⟩⟩)
  · rw [if_pos q] at h; exact h
  · subst q; exact h
  · rw [if_neg q.1, if_neg q.2] at h; exact h
theorem c_W_doWeek {n : Nat} {x : Int32} {K : Int32 → MI → ML → Prop} (hd : 7 ≤ d) (hR : WF R) (hA : RoadA I 0 R) (hG : GoA I R) (hs : StA I 0 s) (hok : OkS R s) (hn : n ≤ 40) (h : ∀ I', StA I' 0 (wkN R n x s 0).1 → GoA I' R → Same (tuS 0) I I' → K (nI (wkN R n x s 0).2) I' L) : CI d m_W_doWeek [vR 0 0, vI x, vI (nI n)] I L K := by
  refine toCI (n := 6) hd (r_W_doWeek_0 ?_)
  have key : ∀ (l i k : Nat) (y : Int32) (J : MI) (t : SA), i + l = n → wkN R l y t k = wkN R n x s 0 → StA J 0 t → OkS R t → GoA J R → Same (tuS 0) I J → XX (6 + 1) m_W_doWeek (fun r I' L' => ∃ x, r = some (vI x) ∧ K x I' L') 8 [vR 0 0, vD, vI (nI n), vI y, vI (nI k), vI (nI i), vD, vD] [] J L := by
    intro l
    induction l with
    | zero =>
      intro i k y J t hil he hsJ hokJ hGJ hSJ
      refine r_W_doWeek_8 ⟨fun _ => ⟨_, rfl, ?_⟩, fun q => absurd (nI_le (show n ≤ i by omega) (by omega)) q⟩
      have := h J (by rw [← he]; exact hsJ) hGJ hSJ
      rw [← he] at this
      exact this
    | succ l ih =>
      intro i k y J t hil he hsJ hokJ hGJ hSJ
      have deed : ∀ v z : Int32, drw y = (v, z) → CI 6 m_W_doDeed [vR 0 0, vR 256 0, vL v.toInt64] J L (fun x6 I4 L5 => (x6 = 0 → (XX (6 + 1) m_W_doWeek (fun r I' L' => ∃ x, r = some (vI x) ∧ K x I' L') 8 [vR 0 0, vD, vI (nI n), vI z, vI (nI k), vI (nI i + 1), vD, vD] [] I4 L5)) ∧ (¬ (x6 = 0) → (XX (6 + 1) m_W_doWeek (fun r I' L' => ∃ x, r = some (vI x) ∧ K x I' L') 8 [vR 0 0, vD, vI (nI n), vI z, vI (nI k + 1), vI (nI i + 1), vD, vD] [] I4 L5))) := by
        intro v z ed
        have ev := Int32.toInt_toInt64 v
        have e1 : (drw y).1 = v := by rw [ed]
        have e2 : (drw y).2 = z := by rw [ed]
        rw [nI_1, nI_1]
        refine c_W_doDeed (by omega) hR (hA.same hSJ (fun r h1 h2 => tuS_road h1 h2)) hGJ hsJ hokJ (fun t' et J1 hs1 hG1 hS1 => ⟨fun q => absurd q (by decide), fun _ => ?_⟩) (fun et => ⟨fun _ => ?_, fun q => absurd rfl q⟩)
        · rw [ev, ← e1] at et
          rw [wkN_y et, e2] at he
          exact ih (i + 1) (k + 1) z J1 t' (by omega) he hs1 (ddO_Ok hR hokJ et) hG1 (hSJ.tr hS1)
        · rw [ev, ← e1] at et
          rw [wkN_n et, e2] at he
          exact ih (i + 1) k z J t (by omega) he hsJ hokJ hGJ hSJ
      refine r_W_doWeek_8 ⟨fun q => absurd q (nI_ge (show i < n by omega) (by omega)), fun _ => c_W_drawn (by omega) ?_⟩
      obtain ⟨w, hw, ew⟩ := hi_n (lcg y) (b := 6) (by omega) (by omega)
      have ew1 : ((lcg y).toUInt32 >>> ((16 : Int32).toUInt32 &&& Int32.toUInt32 31)).toInt32 % (6 : Int32) = nI w := ew
      have ew2 : hi (lcg y) 6 = nI w := ew
      rw [ew1]
      have cs : w ≤ 2 ∨ w = 3 ∨ w = 4 ∨ w = 5 := by omega
      have lo : w ≤ 2 → drw y = (0, lcg y) := fun z => by
        unfold drw
        have n5 : ¬ (5 : Int32) ≤ nI w := nle_c (m := 5) (by omega) (by omega)
        have n3 : ¬ (3 : Int32) ≤ nI w := nle_c (m := 3) (by omega) (by omega)
        rw [ew2, if_neg n5, if_neg n3]
      refine ⟨fun q => ?_, fun q => ?_⟩
      · have hw2 : w ≤ 2 := by
          rcases Nat.lt_or_ge 2 w with z | z
          · exact absurd q (nI_ge (a := 2) z (by omega))
          · exact z
        refine ⟨fun _ => deed 0 (lcg y) (lo hw2), fun q5 => ?_⟩
        have : w = 5 := (nI_eq (b := 5) (by omega) (by omega)).mp (Classical.not_not.mp q5)
        omega
      · have hw3 : ¬ w ≤ 2 := fun z => q (nI_le (b := 2) z (by omega))
        refine c_W_drawn (by omega) (c_W_weekDeed (by omega) ?_)
        rcases cs with z | z | z | z
        · omega
        · subst z
          refine ⟨fun _ => deed _ (lcg (lcg y)) ?_, fun q5 => absurd (by decide) q5⟩
          unfold drw
          rw [ew2, if_neg (by decide), if_pos (by decide), if_pos (show nI 3 = 3 from rfl)]
          rfl
        · subst z
          refine ⟨fun _ => deed _ (lcg (lcg y)) ?_, fun q5 => absurd (by decide) q5⟩
          unfold drw
          rw [ew2, if_neg (by decide), if_pos (by decide), if_neg (by decide)]
          rfl
        · subst z
          refine ⟨fun q5 => absurd rfl q5, fun _ => c_W_drawn (by omega) (deed _ (lcg (lcg (lcg y))) ?_)⟩
          unfold drw
          rw [ew2, if_pos (by decide)]
          rfl
  exact key n 0 0 x I s (by omega) rfl hs hok hG Same.rf
theorem w_week {x a : Int32} {K : Int32 → MI → ML → Prop} (hd : 8 ≤ d) (hO : CoO R s P) (hc : CoC I R s P) (h0 : ¬ isN a 40 → K (-3) I L) (h1 : isN a 40 → ∀ I', CoC I' R (wkN R a.toInt.toNat x s 0).1 (pshN P s (wkN R a.toInt.toNat x s 0).2) → Same cdS I I' → K (nI (wkN R a.toInt.toNat x s 0).2) I' L) : CI d m_W_week [vR 0 0, vI x, vI a] I L K := by
  have hR := hO.1
  have o1 : (1 : Int32).toInt = 1 := rfl
  have o4 : (40 : Int32).toInt = 40 := rfl
  refine toCI (n := 7) hd (r_W_week_0 ⟨fun q => ⟨_, rfl, h0 (fun z => ?_)⟩, fun q => ⟨fun q2 => ?_, fun q2 => ⟨_, rfl, h0 (fun z => ?_)⟩⟩⟩)
  · have := Int32.lt_iff_toInt_lt.mp q; have := z.1; omega
  · have a1 := Int32.le_iff_toInt_le.mp (Int32.not_lt.mp q)
    have a2 := Int32.le_iff_toInt_le.mp q2
    have fin := h1 ⟨by omega, by omega⟩
    have e := ge_nI (a := a) (by omega)
    have hn : a.toInt.toNat ≤ 40 := by omega
    clear a1 a2 q q2 h0 h1
    generalize a.toInt.toNat = n at *
    subst e
    refine c_St_copy (by omega) (by omega) hc.2.1 (fun I1 hs1 hS1 => ?_)
    have hG1 := GoA_st hc.2.2.1 hS1
    have hc1 := CoC_tu hc (i := 1) (by omega) (by omega) hG1 (st_tu hS1)
    refine c_W_doWeek (by omega) hR hc1.1 hG1 hc1.2.1 hO.2.1 hn (fun I2 hs2 hG2 hS2 => ?_)
    have hle := wkN_le (R := R) n x s 0
    have hsA : StA I2 1 s := by
      have nn : ∀ r, 256 ≤ r → r ≤ 259 → ¬ tuS 0 r 1 := fun r x y q => q.elim (goS_st x y) (fun z => by have := z.2; omega)
      exact hs1.same hS2 (nn _ (by omega) (by omega)) (nn _ (by omega) (by omega)) (nn _ (by omega) (by omega)) (nn _ (by omega) (by omega))
    have hc2 : CoC I2 R (wkN R n x s 0).1 P := ⟨hc1.1.same hS2 (fun r h1 h2 => tuS_road h1 h2), hs2, hG2, hc1.2.2.2.same hS2 (tuS_pa (by omega)).1 (tuS_pa (by omega)).2⟩
    have hSc := (st_cd (i := 1) (by omega) hS1).tr (tu_cd (i := 0) (by omega) hS2)
    unfold pshN at fin
    refine ⟨fun q => ⟨_, rfl, ?_⟩, fun q => ?_⟩
    · have e0 : (wkN R n x s 0).2 = 0 := by
        rcases Nat.eq_zero_or_pos (wkN R n x s 0).2 with z | z
        · exact z
        · exact absurd q (nI_ge (a := 0) z (by omega))
      rw [if_pos e0] at fin
      exact fin I2 hc2 hSc
    · have e0 : ¬ (wkN R n x s 0).2 = 0 := fun z => q (by rw [z]; decide)
      rw [if_neg e0] at fin
      refine c_Pa_push (by omega) hc2.2.2.2 hsA (by omega) (fun I3 hP3 hs3 hS3 => ⟨_, rfl, fin I3 ?_ (hSc.tr (pa_cd hS3))⟩)
      have ns : ∀ r, r ≠ 576 → ¬ paS r 0 := fun r hr q => by rcases q with y | y <;> omega
      exact CoC_pa hc2 (hc2.2.1.same hS3 (ns _ (by decide)) (ns _ (by decide)) (ns _ (by decide)) (ns _ (by decide))) hP3 hS3
  · have := Int32.lt_iff_toInt_lt.mp (Int32.not_le.mp q2); have := z.2; omega
/-- only the drawn number's place has changed -/
def xF (I I' : MI) (x : Int32) : Prop := Same (fun r a => r = 704 ∧ a = 0) I I' ∧ (∀ j, j ≠ 25 → I' 704 0 j = I 704 0 j) ∧ I' 704 0 25 = x
theorem xF_u {x : Int32} : xF I (ui I 704 0 25 x) x := ⟨Same.rf.ui ⟨rfl, rfl⟩, fun j hj => ui_k hj, ui_s⟩
theorem xF.tr {I' I'' : MI} {x y : Int32} (h : xF I I' x) (h' : xF I' I'' y) : xF I I'' y := ⟨h.1.tr h'.1, fun j hj => (h'.2.1 j hj).trans (h.2.1 j hj), h'.2.2⟩
theorem xF_F {I' : MI} {x : Int32} (h : xF I I' x) : mF0 I I' := ⟨h.1.mono (fun r a q => ⟨Or.inl q.1, q.2⟩), fun j _ => by rw [h.1 706 0 (fun q => absurd q.1 (by decide))], fun j _ b => h.2.1 j (by omega)⟩
theorem c_M_draw {x : Int32} {b : Nat} {K : Int32 → MI → ML → Prop} (hd : 1 ≤ d) (hb : 0 < b) (hb2 : b < 100) (hx : I 704 0 25 = x) (h : ∀ I', xF I I' (lcg x) → K (hi (lcg x) (nI b)) I' L) : CI d m_M_draw [vR 704 0, vI (nI b)] I L K := by
  refine toCI (n := 0) hd (r_M_draw_0 ⟨fun q => ?_, _, rfl, ?_⟩)
  · have := (nI_eq (b := 0) (by omega) (by omega)).mp q; omega
  · rw [ui_s, hx]
    exact h _ xF_u
theorem c_M_drawn {x : Int32} {K : Int32 → MI → ML → Prop} (hd : 2 ≤ d) (hx : I 704 0 25 = x) (h : ∀ I', xF I I' (drw x).2 → K (drw x).1 I' L) : CI d m_M_drawn [vR 704 0] I L K := by
  unfold drw at h
  refine toCI (n := 1) hd (r_M_drawn_0 (c_M_draw (b := 6) (by omega) (by omega) (by omega) hx (fun I1 h1 => ⟨fun q => ?_, fun q => ⟨fun q3 => ⟨fun q4 => ?_, fun q4 => ?_⟩, fun q3 => ⟨_, rfl, ?_⟩⟩⟩)))
  · have q : (5 : Int32) ≤ hi (lcg x) 6 := q
    rw [if_pos q] at h
    exact c_M_draw (b := 6) (by omega) (by omega) (by omega) h1.2.2 (fun I2 h2 => c_M_draw (b := 10) (by omega) (by omega) (by omega) h2.2.2 (fun I3 h3 => ⟨_, rfl, h I3 ((h1.tr h2).tr h3)⟩))
  · have q : ¬ (5 : Int32) ≤ hi (lcg x) 6 := q
    have q3 : (3 : Int32) ≤ hi (lcg x) 6 := q3
    have q4 : ¬ hi (lcg x) 6 = 3 := q4
    rw [if_neg q, if_pos q3, if_neg q4] at h
    exact c_M_draw (b := 10) (by omega) (by omega) (by omega) h1.2.2 (fun I2 h2 => ⟨_, rfl, h I2 (h1.tr h2)⟩)
  · have q : ¬ (5 : Int32) ≤ hi (lcg x) 6 := q
    have q3 : (3 : Int32) ≤ hi (lcg x) 6 := q3
    have q4 : hi (lcg x) 6 = 3 := Classical.not_not.mp q4
    rw [if_neg q, if_pos q3, if_pos q4] at h
    exact c_M_draw (b := 11) (by omega) (by omega) (by omega) h1.2.2 (fun I2 h2 => ⟨_, rfl, h I2 (h1.tr h2)⟩)
  · have q : ¬ (5 : Int32) ≤ hi (lcg x) 6 := q
    have q3 : ¬ (3 : Int32) ≤ hi (lcg x) 6 := q3
    rw [if_neg q, if_neg q3] at h
    exact h I1 h1
theorem m_week {x a : Int32} {K : Int32 → MI → ML → Prop} (hd : 8 ≤ d) (hO : CoO R s P) (hc : CoM I R s P) (h0 : ¬ isN a 40 → K (-3) (ui I 704 0 0 0) L) (h1 : isN a 40 → ∀ I', CoM I' R (wkN R a.toInt.toNat x s 0).1 (pshN P s (wkN R a.toInt.toNat x s 0).2) → mFr I I' → K (nI (wkN R a.toInt.toNat x s 0).2) I' L) : CI d m_M_week [vR 704 0, vI x, vI a] I L K := by
  have hR := hO.1
  have hW := hR.2.1
  have ea := Int32.toInt_toInt64 a
  have o1 : (1 : Int64).toInt = 1 := rfl
  have o4 : (40 : Int64).toInt = 40 := rfl
  have hc0 : CoM (ui I 704 0 0 0) R s P := CoM_cg hR hc t0_6
  refine toCI (n := 7) hd (r_M_week_0 (c_M_within (by omega) (fun g1 g2 => ⟨fun _ => ?_, fun q => absurd (by decide) q⟩) (fun g => ⟨fun q => absurd rfl q, fun _ => ⟨_, rfl, h0 (fun z => g (by rw [ea, o1, o4]; exact z))⟩⟩)))
  rw [ea, o1] at g1
  rw [ea, o4] at g2
  have fin := h1 ⟨g1, g2⟩
  have e := ge_nI (a := a) (by omega)
  have hn : a.toInt.toNat ≤ 40 := by omega
  clear g1 g2 h0 h1 ea
  generalize a.toInt.toNat = n at *
  subst e
  refine CoM_stores (by omega) hR hc0 (fun I1 hc1 hw1 ht1 hF1 => ?_)
  have key : ∀ (l i k : Nat) (y : Int32) (J : MI) (t : SA), i + l = n → k ≤ i → wkN R l y t k = wkN R n x s 0 → OkS R t → CoM J R t P → J 704 0 25 = y → J 728 0 = I1 728 0 → J 704 0 0 = 0 → mF0 I J → XX (7 + 1) m_M_week (fun r I' L' => ∃ x, r = some (vI x) ∧ K x I' L') 34 [vR 704 0, vD, vI (nI n), vI (nI k), vI (nI i), vD] [] J L := by
    intro l
    induction l with
    | zero =>
      intro i k y J t hil hki he hokJ hcJ hx h7 ht hF
      have e0 : wkN R 0 y t k = (t, k) := rfl
      rw [e0] at he
      rw [← he] at fin
      unfold pshN at fin
      refine r_M_week_34 ⟨fun _ => ⟨fun q => ⟨_, rfl, ?_⟩, fun q => ?_⟩, fun q => absurd (nI_le (show n ≤ i by omega) (by omega)) q⟩
      · have ek : k = 0 := by
          rcases Nat.eq_zero_or_pos k with z | z
          · exact z
          · exact absurd q (nI_ge (a := 0) z (by omega))
        rw [if_pos ek] at fin
        exact fin J hcJ ⟨hF, ht⟩
      · have ek : ¬ k = 0 := fun z => q (by rw [z]; decide)
        rw [if_neg ek] at fin
        exact CoM_notes (s := s) (by omega) hR hcJ (by rw [h7]; exact hw1) (fun I3 hc3 _ ht3 hF3 => ⟨_, rfl, fin I3 hc3 ⟨hF.tr hF3, by rw [ht3]; exact ht⟩⟩)
    | succ l ih =>
      intro i k y J t hil hki he hokJ hcJ hx h7 ht hF
      refine r_M_week_34 ⟨fun q => absurd q (nI_ge (show i < n by omega) (by omega)), fun _ => c_M_drawn (by omega) hx (fun J1 hx1 => ?_)⟩
      have n6 : J1 706 0 = J 706 0 := hx1.1 706 0 (fun q => absurd q.1 (by decide))
      have n7 : J1 728 0 = J 728 0 := hx1.1 728 0 (fun q => absurd q.1 (by decide))
      have hcJ1 : CoM J1 R t P := CoM_cg hR hcJ n6
      have ev := Int32.toInt_toInt64 (drw y).1
      rw [nI_1, nI_1]
      refine c_M_whyNot (s := t) (by omega) hR hcJ1.1 (fun t' et => ⟨fun _ => ?_, fun q => absurd rfl q⟩) (fun et => ⟨fun q => absurd q (by decide), fun _ => ?_⟩)
      · rw [ev] at et
        obtain ⟨r1, r2⟩ := ddO_rg et hW
        have e1 := ge_nI r1
        have et' : ddO R t ((drw y).1.toInt.toNat : Int) = some t' := by rw [show (((drw y).1.toInt.toNat : Nat) : Int) = (drw y).1.toInt by omega]; exact et
        rw [wkN_y et] at he
        rw [e1]
        refine c_M_does (by omega) hR hokJ hcJ1 (by omega) et' (fun J2 hc2 h72 ht2 hhi hF2 => ?_)
        exact ih (i + 1) (k + 1) (drw y).2 J2 t' (by omega) (by omega) he (ddO_Ok hR hokJ et) hc2 (by rw [hhi 25 (by decide)]; exact hx1.2.2) (by rw [h72, n7]; exact h7) (by rw [ht2, hx1.2.1 0 (by decide)]; exact ht) ((hF.tr (xF_F hx1)).tr hF2)
      · rw [ev] at et
        rw [wkN_n et] at he
        exact ih (i + 1) k (drw y).2 J1 t (by omega) (by omega) he hokJ hcJ1 hx1.2.2 (by rw [n7]; exact h7) (by rw [hx1.2.1 0 (by decide)]; exact ht) (hF.tr (xF_F hx1))
  exact key n 0 0 x _ s (by omega) (by omega) rfl hO.2.1 (CoM_7 (I' := I) hR hc1) ui_s (ui_off (by decide)) (by rw [ui_k (by decide), ht1, ui_s]) ((t0_F.tr hF1).tr (u24_F (by omega)))
end Week

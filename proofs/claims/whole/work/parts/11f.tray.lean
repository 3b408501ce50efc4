/-! trays; deeds told in them -/
/-- sort, places, numbers; none: missing -/
abbrev TA : Type := Option (Nat × Nat × (Nat → Int64))
def tOk (t : TA) : Prop := match t with
  | none => True
  | some x => x.1 ≤ 3 ∧ x.2.1 ≤ 40
def TrC (I : MI) (L : ML) (i : Nat) (t : TA) : Prop := match t with
  | none => I 640 i 2 = -1
  | some x => I 640 i 1 = nI x.1 ∧ I 640 i 2 = nI x.2.1 ∧ ∀ k, k < x.2.1 → L 641 i k = x.2.2 k
def TrM (I : MI) (L : ML) (i : Nat) (t : TA) : Prop := match t with
  | none => I 742 0 i = -1
  | some x => I 742 0 i = nI x.1 ∧ I 743 0 i = nI x.2.1 ∧ ∀ k, k < x.2.1 → L 744 0 (40 * i + k) = x.2.2 k
/-- deeds from the k-th on, l of them -/
def dlN (R : RD) (f : Nat → Int64) : Nat → Nat → SA → SA × Nat
  | 0, k, s => (s, k)
  | l + 1, k, s => match ddO R s (f k).toInt with
    | some t => dlN R f l (k + 1) t
    | none => (s, k)
theorem dlN_le {R : RD} {f : Nat → Int64} : ∀ l k s, k ≤ (dlN R f l k s).2 ∧ (dlN R f l k s).2 ≤ k + l
  | 0, k, s => ⟨Nat.le_refl _, Nat.le_refl _⟩
  | l + 1, k, s => by
    unfold dlN
    cases ddO R s (f k).toInt with
    | none => exact ⟨Nat.le_refl _, by simp⟩
    | some t => show k ≤ (dlN R f l (k + 1) t).2 ∧ (dlN R f l (k + 1) t).2 ≤ k + (l + 1); have := dlN_le (R := R) (f := f) l (k + 1) t; exact ⟨by omega, by omega⟩
theorem dlN_Ok {R : RD} (hR : WF R) {f : Nat → Int64} : ∀ l k s, OkS R s → OkS R (dlN R f l k s).1
  | 0, _, _, h => h
  | l + 1, k, s, h => by
    unfold dlN
    cases e : ddO R s (f k).toInt with
    | none => exact h
    | some t => exact dlN_Ok hR l (k + 1) t (ddO_Ok hR h e)
theorem dlN_0 {R : RD} {f : Nat → Int64} : ∀ l k s, (dlN R f l k s).2 = k → (dlN R f l k s).1 = s
  | 0, _, _, _ => rfl
  | l + 1, k, s, h => by
    revert h
    unfold dlN
    cases e : ddO R s (f k).toInt with
    | none => intro _; rfl
    | some t => intro h; have h : (dlN R f l (k + 1) t).2 = k := h; have := dlN_le (R := R) (f := f) l (k + 1) t; omega
section TrayC
variable {d i j : Nat} {I : MI} {L : ML} {R : RD} {s : SA} {P : List SA}
theorem c_Tr_size {K : Int32 → MI → ML → Prop} (hd : 1 ≤ d) (h : K (I 640 j 2) I L) : CI d m_Tr_size [vR 640 j] I L K := toCI (n := 0) hd (r_Tr_size_0 ⟨_, rfl, h⟩)
theorem c_Tr_at {k : Nat} {K : Int64 → MI → ML → Prop} (hd : 1 ≤ d) (hk : k < 40) (h : K (L 641 j k) I L) : CJ d m_Tr_at [vR 640 j, vI (nI k)] I L K := by
  refine toCJ (n := 0) hd (r_Tr_at_0 ⟨fun q => absurd q (nlt0 (by omega)), fun _ => ⟨fun q => absurd q (nle_c (m := 40) hk (by omega)), fun _ => ⟨vin hk (by omega), _, rfl, ?_⟩⟩⟩)
  rw [cl_n (by omega)]; exact h
theorem c_W_doAll {so n : Nat} {f : Nat → Int64} {K : Int32 → MI → ML → Prop} (hd : 7 ≤ d) (hR : WF R) (hA : RoadA I 0 R) (hG : GoA I R) (hs : StA I i s) (hok : OkS R s) (hn : n ≤ 40) (hT : TrC I L j (some (so, n, f))) (h : ∀ I', StA I' i (dlN R f n 0 s).1 → GoA I' R → Same (tuS i) I I' → K (nI (dlN R f n 0 s).2) I' L) : CI d m_W_doAll [vR 0 0, vR 256 i, vR 640 j] I L K := by
  obtain ⟨t1, t2, t3⟩ := hT
  refine toCI (n := 6) hd (r_W_doAll_0 ?_)
  have n640 : ∀ a, ¬ tuS i 640 a := fun a q => by
    rcases q with z | z
    · rcases z.1 with y | y | y | y | y | y | y | y | y <;> omega
    · rcases z.1 with y | y | y | y <;> omega
  have key : ∀ (l k : Nat) (J : MI) (t : SA), k + l = n → dlN R f l k t = dlN R f n 0 s → StA J i t → OkS R t → GoA J R → Same (tuS i) I J → XX (6 + 1) m_W_doAll (fun r I' L' => ∃ x, r = some (vI x) ∧ K x I' L') 2 [vR 0 0, vR 256 i, vR 640 j, vI (nI k)] [] J L := by
    intro l
    induction l with
    | zero =>
      intro k J t hk he hsJ hokJ hGJ hSJ
      have e2 : J 640 j 2 = nI n := by rw [hSJ 640 j (n640 j)]; exact t2
      refine r_W_doAll_2 (c_Tr_size (by omega) ?_)
      rw [e2]
      refine ⟨fun _ => ⟨_, rfl, ?_⟩, fun q => absurd (nI_le (show n ≤ k by omega) (by omega)) q⟩
      have := h J (by rw [← he]; exact hsJ) hGJ hSJ
      rw [← he] at this
      exact this
    | succ l ih =>
      intro k J t hk he hsJ hokJ hGJ hSJ
      have e2 : J 640 j 2 = nI n := by rw [hSJ 640 j (n640 j)]; exact t2
      refine r_W_doAll_2 (c_Tr_size (by omega) ?_)
      rw [e2]
      refine ⟨fun q => absurd q (nI_ge (show k < n by omega) (by omega)), fun _ => c_Tr_at (by omega) (by omega) ?_⟩
      rw [t3 k (show k < n by omega)]
      refine c_W_doDeed (by omega) hR (hA.same hSJ (fun r h1 h2 => tuS_road h1 h2)) hGJ hsJ hokJ (fun t' et J1 hs1 hG1 hS1 => ⟨fun q => absurd q (by decide), fun _ => ?_⟩) (fun et => ⟨fun _ => ⟨_, rfl, ?_⟩, fun q => absurd rfl q⟩)
      · rw [nI_1]
        refine ih (k + 1) J1 t' (by omega) ?_ hs1 (ddO_Ok hR hokJ et) hG1 (hSJ.tr hS1)
        rw [← he]
        show _ = (match ddO R t (f k).toInt with | some t => dlN R f l (k + 1) t | none => (t, k))
        rw [et]
      · have e3 : dlN R f (l + 1) k t = (t, k) := by
          show (match ddO R t (f k).toInt with | some t => dlN R f l (k + 1) t | none => (t, k)) = _
          rw [et]
        rw [e3] at he
        have := h J (by rw [← he]; exact hsJ) hGJ hSJ
        rw [← he] at this
        exact this
  exact key n 0 I s (by omega) rfl hs hok hG Same.rf
theorem c_W_trayAt {a : Int32} {K0 : MI → ML → Prop} {K : Nat → MI → ML → Prop} (hd : 1 ≤ d) (h0 : ¬ (0 ≤ a.toInt ∧ a.toInt ≤ 3) → K0 I L) (h1 : 0 ≤ a.toInt → a.toInt ≤ 3 → K a.toInt.toNat I L) : CA d m_W_trayAt [vR 0 0, vI a] I L 640 K0 K := by
  have z0 : (0 : Int32).toInt = 0 := rfl
  have z4 : (4 : Int32).toInt = 4 := rfl
  refine toCA (n := 0) hd (r_W_trayAt_0 ⟨fun q => Or.inl ⟨rfl, h0 (fun z => ?_)⟩, fun q => ⟨fun q2 => Or.inl ⟨rfl, h0 (fun z => ?_)⟩, fun q2 => ?_⟩⟩)
  · have := Int32.lt_iff_toInt_lt.mp q; omega
  · have := Int32.le_iff_toInt_le.mp q2; omega
  · have a1 := Int32.le_iff_toInt_le.mp (Int32.not_lt.mp q)
    have a2 := Int32.lt_iff_toInt_lt.mp (Int32.not_le.mp q2)
    have e := ge_nI (a := a) (by omega)
    refine ⟨by rw [e]; exact vin (by omega) (by omega), Or.inr ⟨a.toInt.toNat, ?_, h1 (by omega) (by omega)⟩⟩
    have e2 : a.toNatClampNeg = a.toInt.toNat := rfl
    rw [e2, Nat.zero_add]
theorem c_Tr_isMissing {t : TA} {K : Int32 → MI → ML → Prop} (hd : 1 ≤ d) (ht : tOk t) (hT : TrC I L j t) (h1 : t = none → K 1 I L) (h0 : ∀ so n f, t = some (so, n, f) → so ≤ 3 → n ≤ 40 → K 0 I L) : CI d m_Tr_isMissing [vR 640 j] I L K := by
  refine toCI (n := 0) hd (r_Tr_isMissing_0 ⟨fun q => ⟨_, rfl, ?_⟩, fun q => ⟨_, rfl, ?_⟩⟩)
  · cases t with
    | none => exact absurd hT q
    | some x => exact h0 x.1 x.2.1 x.2.2 rfl ht.1 ht.2
  · cases t with
    | none => exact h1 rfl
    | some x =>
      have e : I 640 j 2 = nI x.2.1 := hT.2.1
      have hl := ht.2
      rw [e] at q
      exact absurd (Classical.not_not.mp q) (nI_m1 (by omega))
/-- what judge tells -/
def jdO (R : RD) (s : SA) (n : Nat) (f : Nat → Int64) (w : Int32) : Int32 :=
  if w = 0 then (if (dlN R f n 0 s).2 = n then -1 else nI (dlN R f n 0 s).2) else if w = 1 then (if (dlN R f n 0 s).2 = n then 0 else 1) else if w = 2 then sumN (dlN R f n 0 s).1.1 6 else whoN (dlN R f n 0 s).1.1 6
def is3 (a : Int32) : Prop := 0 ≤ a.toInt ∧ a.toInt ≤ 3
theorem w_judge {T : Nat → TA} {a w : Int32} {K : Int32 → MI → ML → Prop} (hd : 8 ≤ d) (hO : CoO R s P) (hc : CoC I R s P) (hT : ∀ i, i < 4 → tOk (T i) ∧ TrC I L i (T i)) (h2 : ¬ (is3 a ∧ is3 w) → K (-2) I L) (h3 : is3 a → is3 w → T a.toInt.toNat = none → K (-6) I L) (h1 : ∀ so n f, is3 a → is3 w → T a.toInt.toNat = some (so, n, f) → ∀ I', CoC I' R s P → Same cdS I I' → K (jdO R s n f w) I' L) : CI d m_W_judge [vR 0 0, vI a, vI w] I L K := by
  have hR := hO.1
  have z0 : (0 : Int32).toInt = 0 := rfl
  have z3 : (3 : Int32).toInt = 3 := rfl
  refine toCI (n := 7) hd (r_W_judge_0 (c_W_trayAt (by omega) (fun g => ⟨_, rfl, h2 (fun z => g z.1)⟩) (fun g1 g2 => ⟨fun q => ⟨_, rfl, h2 (fun z => ?_)⟩, fun q => ⟨fun q2 => ?_, fun q2 => ⟨_, rfl, h2 (fun z => ?_)⟩⟩⟩)))
  · have := Int32.lt_iff_toInt_lt.mp q; have := z.2.1; omega
  · have a1 := Int32.le_iff_toInt_le.mp (Int32.not_lt.mp q)
    have a2 := Int32.le_iff_toInt_le.mp q2
    have hw : is3 w := ⟨by omega, by omega⟩
    obtain ⟨ht, hTr⟩ := hT a.toInt.toNat (by omega)
    refine c_Tr_isMissing (by omega) ht hTr (fun e => ⟨fun z => absurd z (by decide), fun _ => ⟨_, rfl, h3 ⟨g1, g2⟩ hw e⟩⟩) (fun so n f e hso hn => ⟨fun _ => ?_, fun z => absurd rfl z⟩)
    rw [e] at hTr
    refine c_St_copy (by omega) (by omega) hc.2.1 (fun I1 hs1 hS1 => ?_)
    have hG1 := GoA_st hc.2.2.1 hS1
    have hc1 := CoC_tu hc (i := 2) (by omega) (by omega) hG1 (st_tu hS1)
    have n640 : I1 640 a.toInt.toNat = I 640 a.toInt.toNat := hS1 640 _ (fun q => by rcases q.1 with y | y | y | y <;> omega)
    have hTr1 : TrC I1 L a.toInt.toNat (some (so, n, f)) := ⟨by rw [n640]; exact hTr.1, by rw [n640]; exact hTr.2.1, hTr.2.2⟩
    refine c_W_doAll (by omega) hR hc1.1 hG1 hs1 hO.2.1 hn hTr1 (fun I2 hs2 hG2 hS2 => c_Tr_size (by omega) ?_)
    have n640' : I2 640 a.toInt.toNat 2 = nI n := by
      rw [hS2 640 _ (fun q => by
        rcases q with z | z
        · rcases z.1 with y | y | y | y | y | y | y | y | y <;> omega
        · rcases z.1 with y | y | y | y <;> omega)]
      exact hTr1.2.1
    rw [n640']
    have fin := h1 so n f ⟨g1, g2⟩ hw e I2 (CoC_tu hc1 (by omega) (by omega) hG2 hS2) ((st_cd (by omega) hS1).tr (tu_cd (by omega) hS2))
    have hle := (dlN_le (R := R) (f := f) n 0 s).2
    have eS : sumN (I2 257 2) 6 = sumN (dlN R f n 0 s).1.1 6 := sumN_eq 6 (fun c hc => hs2.1 c hc)
    have eW : whoN (I2 257 2) 6 = whoN (dlN R f n 0 s).1.1 6 := whoN_eq 6 (fun c hc => hs2.1 c hc)
    unfold jdO at fin
    refine ⟨fun qn => ?_, fun qn => ?_⟩
    · have hne : ¬ (dlN R f n 0 s).2 = n := fun z => qn (by rw [z])
      rw [if_neg hne, if_neg hne] at fin
      refine ⟨fun y => ⟨fun _ => ⟨_, rfl, ?_⟩, fun z => absurd rfl z⟩, fun y => ⟨fun _ => ⟨_, rfl, ?_⟩, fun z => absurd rfl z⟩, fun y => c_St_lateSum (by omega) ⟨_, rfl, ?_⟩, fun y => c_St_lateBits (by omega) ⟨_, rfl, ?_⟩⟩
      · subst y; exact fin
      · subst y; exact fin
      · subst y; rw [eS]; exact fin
      · rw [if_neg y.1, if_neg y.2.1, if_neg y.2.2] at fin; rw [eW]; exact fin
    · have heq : (dlN R f n 0 s).2 = n := (nI_eq (by omega) (by omega)).mp (Classical.not_not.mp qn)
      rw [if_pos heq, if_pos heq] at fin
      refine ⟨fun y => ⟨fun z => absurd z (by decide), fun _ => ⟨_, rfl, ?_⟩⟩, fun y => ⟨fun z => absurd z (by decide), fun _ => ⟨_, rfl, ?_⟩⟩, fun y => c_St_lateSum (by omega) ⟨_, rfl, ?_⟩, fun y => c_St_lateBits (by omega) ⟨_, rfl, ?_⟩⟩
      · subst y; exact fin
      · subst y; exact fin
      · subst y; rw [eS]; exact fin
      · rw [if_neg y.1, if_neg y.2.1, if_neg y.2.2] at fin; rw [eW]; exact fin
  · have := Int32.lt_iff_toInt_lt.mp (Int32.not_le.mp q2); have := z.2.2; omega
/-- the past behind n deeds at once -/
def pshN (P : List SA) (s : SA) (n : Nat) : List SA := if n = 0 then P else pusL P s
theorem w_perform {T : Nat → TA} {a : Int32} {K : Int32 → MI → ML → Prop} (hd : 8 ≤ d) (hO : CoO R s P) (hc : CoC I R s P) (hT : ∀ i, i < 4 → tOk (T i) ∧ TrC I L i (T i)) (h2 : ¬ is3 a → K (-2) I L) (h3 : is3 a → T a.toInt.toNat = none → K (-6) I L) (h1 : ∀ so n f, is3 a → T a.toInt.toNat = some (so, n, f) → ∀ I', CoC I' R (dlN R f n 0 s).1 (pshN P s (dlN R f n 0 s).2) → Same cdS I I' → K (nI (dlN R f n 0 s).2) I' L) : CI d m_W_perform [vR 0 0, vI a] I L K := by
  have hR := hO.1
  have z0 : (0 : Int32).toInt = 0 := rfl
  refine toCI (n := 7) hd (r_W_perform_0 (c_W_trayAt (by omega) (fun g => ⟨_, rfl, h2 g⟩) (fun g1 g2 => ?_)))
  obtain ⟨ht, hTr⟩ := hT a.toInt.toNat (by omega)
  refine c_Tr_isMissing (by omega) ht hTr (fun e => ⟨fun z => absurd z (by decide), fun _ => ⟨_, rfl, h3 ⟨g1, g2⟩ e⟩⟩) (fun so n f e hso hn => ⟨fun _ => ?_, fun z => absurd rfl z⟩)
  rw [e] at hTr
  refine c_St_copy (by omega) (by omega) hc.2.1 (fun I1 hs1 hS1 => ?_)
  have hG1 := GoA_st hc.2.2.1 hS1
  have hc1 := CoC_tu hc (i := 1) (by omega) (by omega) hG1 (st_tu hS1)
  have n640 : I1 640 a.toInt.toNat = I 640 a.toInt.toNat := hS1 640 _ (fun q => by rcases q.1 with y | y | y | y <;> omega)
  have hTr1 : TrC I1 L a.toInt.toNat (some (so, n, f)) := ⟨by rw [n640]; exact hTr.1, by rw [n640]; exact hTr.2.1, hTr.2.2⟩
  refine c_W_doAll (by omega) hR hc1.1 hG1 hc1.2.1 hO.2.1 hn hTr1 (fun I2 hs2 hG2 hS2 => ?_)
  have hle := (dlN_le (R := R) (f := f) n 0 s).2
  have hsA : StA I2 1 s := by
    have nn : ∀ r, 256 ≤ r → r ≤ 259 → ¬ tuS 0 r 1 := fun r x y q => q.elim (goS_st x y) (fun z => by have := z.2; omega)
    exact hs1.same hS2 (nn _ (by omega) (by omega)) (nn _ (by omega) (by omega)) (nn _ (by omega) (by omega)) (nn _ (by omega) (by omega))
  have hc2 : CoC I2 R (dlN R f n 0 s).1 P := ⟨hc1.1.same hS2 (fun r h1 h2 => tuS_road h1 h2), hs2, hG2, hc1.2.2.2.same hS2 (tuS_pa (by omega)).1 (tuS_pa (by omega)).2⟩
  have hSc := (st_cd (i := 1) (by omega) hS1).tr (tu_cd (i := 0) (by omega) hS2)
  have fin := h1 so n f ⟨g1, g2⟩ e
  unfold pshN at fin
  refine ⟨fun q => ⟨_, rfl, ?_⟩, fun q => ?_⟩
  · have e0 : (dlN R f n 0 s).2 = 0 := by
      rcases Nat.eq_zero_or_pos (dlN R f n 0 s).2 with z | z
      · exact z
      · exact absurd q (nI_ge (a := 0) z (by omega))
    rw [if_pos e0] at fin
    exact fin I2 hc2 hSc
  · have e0 : ¬ (dlN R f n 0 s).2 = 0 := fun z => q (by rw [z]; decide)
    rw [if_neg e0] at fin
    refine c_Pa_push (by omega) hc2.2.2.2 hsA (by omega) (fun I3 hP3 hs3 hS3 => ⟨_, rfl, fin I3 ?_ (hSc.tr (pa_cd hS3))⟩)
    have nn : ∀ r, ¬ paS r 0 ∨ r = 576 := fun r => by
      by_cases z : r = 576
      · exact Or.inr z
      · exact Or.inl (fun q => by rcases q with y | y <;> omega)
    have ns : ∀ r, r ≠ 576 → ¬ paS r 0 := fun r hr => (nn r).elim id (fun z => absurd z hr)
    exact CoC_pa hc2 (hc2.2.1.same hS3 (ns _ (by decide)) (ns _ (by decide)) (ns _ (by decide)) (ns _ (by decide))) hP3 hS3
end TrayC

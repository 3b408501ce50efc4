/-! deeds told, of the reference -/
section TrayM
variable {d i j : Nat} {I : MI} {L : ML} {R : RD} {s : SA} {P : List SA}
theorem c_M_whyNot {v : Int64} {K : Int32 → MI → ML → Prop} (hd : 3 ≤ d) (hR : WF R) (hM : MRo (I 706 0) R) (h0 : ∀ t, ddO R s v.toInt = some t → K 0 I L) (h1 : ddO R s v.toInt = none → K 1 I L) : CI d m_M_whyNot [vR 704 0, vL v] I L K := by
  have hC := hR.1
  have hW := hR.2.1
  have c0 : (0 : Int64).toInt = 0 := rfl
  have c10 : (10 : Int64).toInt = 10 := rfl
  have c20 : (20 : Int64).toInt = 20 := rfl
  have c29 : (29 : Int64).toInt = 29 := rfl
  have c100 : (100 : Int64).toInt = 100 := rfl
  have c199 : (199 : Int64).toInt = 199 := rfl
  refine toCI (n := 2) hd (r_M_whyNot_0 (c_M_within (by omega) (fun g1 g2 => ⟨fun q => absurd q (by decide), fun _ => ?_⟩) (fun g => ⟨fun _ => ?_, fun q => absurd rfl q⟩)))
  · refine c_M_isRound (by omega) hR hM (fun a1 a2 => ⟨fun q => absurd q (by decide), fun _ => ⟨_, rfl, h0 (trn R s (nI v.toInt.toNat - 1)) ?_⟩⟩) (fun a => ⟨fun _ => ⟨_, rfl, h1 ?_⟩, fun q => absurd rfl q⟩)
    · unfold ddO; rw [if_pos ⟨a1, a2⟩]
    · unfold ddO; rw [if_neg a, if_neg (by omega), if_neg (by omega)]
  · have gn : ¬ (0 ≤ v.toInt ∧ v.toInt ≤ rW R) := fun z => g ⟨by omega, by omega⟩
    refine c_M_within (by omega) (fun a1 a2 => ⟨fun q => absurd q (by decide), fun _ => ⟨_, rfl, h0 (s.1, s.2.1, s.2.2.1, nI (v.toInt.toNat - 20), s.2.2.2.2) ?_⟩⟩) (fun a => ⟨fun _ => ?_, fun q => absurd rfl q⟩)
    · unfold ddO; rw [if_neg gn, if_pos ⟨by omega, by omega⟩]
    · have an : ¬ (20 ≤ v.toInt ∧ v.toInt ≤ 29) := fun z => a ⟨by omega, by omega⟩
      refine c_M_within (by omega) (fun b1 b2 => ⟨fun q => absurd q (by decide), fun _ => ?_⟩) (fun b => ⟨fun _ => ⟨_, rfl, h1 ?_⟩, fun q => absurd rfl q⟩)
      · obtain ⟨k, hk, e1, e2, e3⟩ := dd_of (v := v) (by omega) (by omega)
        obtain ⟨t1, t2, t3⟩ := e3 (by omega)
        have et : v.toInt.toNat = k := by omega
        refine c_M_isCoach (by omega) hR hM (fun x1 x2 => ⟨fun q => absurd q (by decide), fun _ => ⟨_, rfl, h0 (s.1, s.2.1, fun c => if c = (v.toInt.toNat - 100) / 10 then nI (v.toInt.toNat % 10) else s.2.2.1 c, s.2.2.2.1, s.2.2.2.2) ?_⟩⟩) (fun x => ⟨fun _ => ⟨_, rfl, h1 ?_⟩, fun q => absurd rfl q⟩)
        · rw [t3] at x2
          unfold ddO; rw [if_neg gn, if_neg an, if_pos ⟨by omega, by omega, by omega⟩]
        · rw [t3] at x
          unfold ddO; rw [if_neg gn, if_neg an, if_neg (fun z => x ⟨by omega, by have := z.2.2; rw [et] at this; omega⟩)]
      · unfold ddO; rw [if_neg gn, if_neg an, if_neg (fun z => b ⟨by omega, by omega⟩)]
theorem ddO_rg {t : SA} {v : Int} (h : ddO R s v = some t) (hW : rW R ≤ 10) : 0 ≤ v ∧ v < 200 := by
  unfold ddO at h
  by_cases h1 : 0 ≤ v ∧ v ≤ rW R
  · omega
  rw [if_neg h1] at h
  by_cases h2 : 20 ≤ v ∧ v ≤ 29
  · omega
  rw [if_neg h2] at h
  by_cases h3 : 100 ≤ v ∧ v ≤ 199 ∧ (v.toNat - 100) / 10 < rC R
  · omega
  · rw [if_neg h3] at h; cases h
theorem c_M_does {k : Nat} {t : SA} {K : MI → ML → Prop} (hd : 7 ≤ d) (hR : WF R) (hok : OkS R s) (hc : CoM I R s P) (hk : k < 200) (e : ddO R s (k : Int) = some t) (h : ∀ I', CoM I' R t P → I' 728 0 = I 728 0 → I' 704 0 0 = I 704 0 0 → (∀ j, 22 < j → I' 704 0 j = I 704 0 j) → mF0 I I' → K I' L) : CV d m_M_does [vR 704 0, vI (nI k)] I L K := by
  have hC := hR.1
  have hW := hR.2.1
  have tk : (k : Int).toNat = k := by omega
  have tb := List.all_eq_true.mp dd_tab k (List.mem_range.mpr hk)
  simp only [Bool.and_eq_true, Bool.or_eq_true, decide_eq_true_eq] at tb
  refine toCV (n := 6) hd (r_M_does_0 ?_)
  unfold ddO at e
  rw [tk] at e
  by_cases g1 : 0 ≤ (k : Int) ∧ (k : Int) ≤ rW R
  · rw [if_pos g1] at e
    cases e
    refine ⟨fun q => absurd q (nI_nlt (a := 10) (b := k) (by omega) (by omega)), fun _ => ?_⟩
    refine c_M_goesRound (by omega) hR hc.1 hc.2.1 (hok.1.mono (by omega)) (fun I' hs hj ho hS => ⟨rfl, ?_⟩)
    exact h I' ⟨MRo_cg hR hc.1 (fun j q => hj j (by omega)), hs, MPa_cg hc.2.2 (fun j h1 _ => hj j (by omega))⟩ (hS 728 0 (fun q => by rcases q.1 with z | z | z | z | z | z | z <;> omega)) (ho 0 (by decide) (by decide)) (fun j q => ho j (by omega) (by omega)) ⟨rd_md hS, fun j q => hj j (by omega), ho.lo⟩
  rw [if_neg g1] at e
  by_cases g2 : 20 ≤ (k : Int) ∧ (k : Int) ≤ 29
  · rw [if_pos g2] at e
    cases e
    have e20 : nI k - (20 : Int32) = nI (k - 20) := nI_sub (a := k) (b := 20) (by omega)
    refine ⟨fun _ => ⟨fun q => absurd q (nle_c (m := 30) (j := k) (by omega) (by omega)), fun _ => ⟨rfl, ?_⟩⟩, fun q => absurd (nI_lt (a := 10) (b := k) (by omega) (by omega)) q⟩
    rw [e20]
    exact h _ (CoM_mud hR hc) (ui_off (by decide)) (ui_r (by decide)) (fun j _ => ui_r (by decide)) (u6_F (by omega) (by omega))
  rw [if_neg g2] at e
  by_cases g3 : 100 ≤ (k : Int) ∧ (k : Int) ≤ 199 ∧ (k - 100) / 10 < rC R
  · rw [if_pos g3] at e
    cases e
    have hk100 : ¬ k < 100 := by omega
    obtain ⟨⟨t1, t2⟩, t3⟩ := tb
    obtain ⟨⟨z1, z2⟩, z3⟩ := t3.resolve_left hk100
    have e74 : (74 : Int32) + nI ((k - 100) / 10) = nI (74 + (k - 100) / 10) := nI_add 74 _
    refine ⟨fun _ => ⟨fun _ => ?_, fun q => absurd (le_c (m := 30) (j := k) (by omega) (by omega)) q⟩, fun q => absurd (nI_lt (a := 10) (b := k) (by omega) (by omega)) q⟩
    rw [z1, z2, e74, cl_n (by omega)]
    exact ⟨vin (by omega) (by omega), rfl, h _ (CoM_hold hR hc (by omega)) (ui_off (by decide)) (ui_r (by decide)) (fun j _ => ui_r (by decide)) (u6_F (by omega) (by omega))⟩
  · rw [if_neg g3] at e
    cases e
theorem CoM_7 {I' : MI} (hR : WF R) (h : CoM I R s P) {j : Nat} {x : Int32} : CoM (ui I 704 0 j x) R s P := CoM_cg hR h (ui_off (by decide))
theorem u24_F {x : Int32} {j : Nat} (hj : 21 ≤ j) : mF0 I (ui I 704 0 j x) := ⟨Same.rf.ui ⟨Or.inl rfl, rfl⟩, fun _ _ => by rw [ui_r (by decide)], fun k _ b => ui_k (by omega)⟩
theorem c_M_tells {so n a : Nat} {f : Nat → Int64} {K : Int32 → MI → ML → Prop} (hd : 8 ≤ d) (hR : WF R) (hok : OkS R s) (hc : CoM I R s P) (ha : a < 4) (hn : n ≤ 40) (hT : TrM I L a (some (so, n, f))) (h : ∀ I', CoM I' R (dlN R f n 0 s).1 P → I' 704 0 24 = (if (dlN R f n 0 s).2 = n then 0 else 1) → I' 728 0 = I 728 0 → I' 704 0 0 = I 704 0 0 → mF0 I I' → K (nI (dlN R f n 0 s).2) I' L) : CI d m_M_tells [vR 704 0, vI (nI a)] I L K := by
  obtain ⟨t1, t2, t3⟩ := hT
  have hW := hR.2.1
  refine toCI (n := 7) hd (r_M_tells_0 ?_)
  have key : ∀ (l k : Nat) (J : MI) (t : SA), k + l = n → dlN R f l k t = dlN R f n 0 s → OkS R t → CoM J R t P → J 704 0 24 = 0 → J 728 0 = I 728 0 → J 704 0 0 = I 704 0 0 → mF0 I J → XX (7 + 1) m_M_tells (fun r I' L' => ∃ x, r = some (vI x) ∧ K x I' L') 7 [vR 704 0, vI (nI a), vI (nI k)] [] J L := by
    intro l
    induction l with
    | zero =>
      intro k J t hk he hokJ hcJ h24 h7 ht hF
      have e7 : J 743 0 a = nI n := by rw [hF.1 743 0 (fun q => by rcases q.1 with z | z | z <;> omega)]; exact t2
      refine r_M_tells_7 ?_
      rw [cl_n (by omega), e7]
      refine ⟨vin ha (by omega), fun _ => ⟨vin ha (by omega), _, rfl, ?_⟩, fun q => absurd (nI_le (show n ≤ k by omega) (by omega)) q⟩
      have e0 : dlN R f 0 k t = (t, k) := rfl
      rw [e0] at he
      have ek : k = n := by omega
      have := h J (by rw [← he]; exact hcJ) (by rw [← he, if_pos ek]; exact h24) h7 ht hF
      rw [← he] at this
      rw [← ek]
      exact this
    | succ l ih =>
      intro k J t hk he hokJ hcJ h24 h7 ht hF
      have e7 : J 743 0 a = nI n := by rw [hF.1 743 0 (fun q => by rcases q.1 with z | z | z <;> omega)]; exact t2
      have eix : ((40 : Int32) * nI a) + nI k = nI (40 * a + k) := by
        have b1 : (40 : Int32) * nI a = nI (40 * a) := pk_mul 40 a
        rw [b1, nI_add]
      refine r_M_tells_7 ?_
      rw [cl_n (by omega), e7, eix, cl_n (by omega), t3 k (show k < n by omega)]
      refine ⟨vin ha (by omega), fun q => absurd q (nI_ge (show k < n by omega) (by omega)), fun _ => ⟨vin (by omega) (by omega), ?_⟩⟩
      refine c_M_whyNot (s := t) (by omega) hR hcJ.1 (fun t' et => ?_) (fun et => ?_)
      · rw [ui_s]
        refine ⟨fun _ => ⟨vin (by omega) (by omega), ?_⟩, fun q => absurd rfl q⟩
        obtain ⟨r1, r2⟩ := ddO_rg et hW
        obtain ⟨m, hm, e1, e2, e3⟩ := dd_of (v := f k) r1 r2
        rw [t3 k (show k < n by omega), e2]
        rw [e1] at et
        refine c_M_does (by omega) hR hokJ (CoM_7 (I' := I) hR hcJ) hm et (fun J1 hc1 h71 ht1 hhi hF1 => ?_)
        rw [nI_1]
        refine ih (k + 1) J1 t' (by omega) ?_ (ddO_Ok hR hokJ et) hc1 ?_ ?_ ?_ ((hF.tr (u24_F (by omega))).tr hF1)
        · rw [← he]
          show _ = (match ddO R t (f k).toInt with | some t => dlN R f l (k + 1) t | none => (t, k))
          rw [e1, et]
        · rw [hhi 24 (by decide), ui_s]
        · rw [h71, ui_off (by decide)]; exact h7
        · rw [ht1, ui_k (by decide)]; exact ht
      · rw [ui_s]
        refine ⟨fun q => absurd q (by decide), fun _ => ⟨_, rfl, ?_⟩⟩
        have e3 : dlN R f (l + 1) k t = (t, k) := by
          show (match ddO R t (f k).toInt with | some t => dlN R f l (k + 1) t | none => (t, k)) = _
          rw [et]
        rw [e3] at he
        have hne : ¬ k = n := by omega
        have := h (ui J 704 0 24 1) (by rw [← he]; exact CoM_7 (I' := I) hR hcJ) (by rw [← he, if_neg hne, ui_s]) (by rw [ui_off (by decide)]; exact h7) (by rw [ui_k (by decide)]; exact ht) (hF.tr (u24_F (by omega)))
        rw [← he] at this
        exact this
  exact key n 0 _ s (by omega) rfl hok (CoM_7 (I' := I) hR hc) ui_s (ui_off (by decide)) (ui_k (by decide)) (u24_F (by omega))
theorem c_M_noTray {t : TA} {a : Int32} {K : Int32 → MI → ML → Prop} (hd : 2 ≤ d) (ht : is3 a → tOk t ∧ TrM I L a.toInt.toNat t) (h2 : ¬ is3 a → K (-2) I L) (h3 : is3 a → t = none → K (-6) I L) (h1 : ∀ so n f, is3 a → t = some (so, n, f) → so ≤ 3 → n ≤ 40 → K 0 I L) : CI d m_M_noTray [vR 704 0, vI a] I L K := by
  have ea := Int32.toInt_toInt64 a
  have c0 : (0 : Int64).toInt = 0 := rfl
  have c3 : (3 : Int64).toInt = 3 := rfl
  refine toCI (n := 1) hd (r_M_noTray_0 (c_M_within (by omega) (fun g1 g2 => ⟨fun _ => ?_, fun q => absurd (by decide) q⟩) (fun g => ⟨fun q => absurd rfl q, fun _ => ⟨_, rfl, h2 (fun z => g (by rw [ea, c0, c3]; exact z))⟩⟩)))
  rw [ea, c0] at g1
  rw [ea, c3] at g2
  have i3 : is3 a := ⟨g1, g2⟩
  have e := ge_nI g1
  have ec : a.toNatClampNeg = a.toInt.toNat := rfl
  obtain ⟨hk, hT⟩ := ht i3
  rw [ec]
  refine ⟨by rw [e]; exact vin (by omega) (by omega), fun q => ⟨_, rfl, ?_⟩, fun q => ⟨_, rfl, ?_⟩⟩
  · cases t with
    | none => exact absurd hT q
    | some x => exact h1 x.1 x.2.1 x.2.2 i3 rfl hk.1 hk.2
  · cases t with
    | none => exact h3 i3 rfl
    | some x =>
      have e1 : I 742 0 a.toInt.toNat = nI x.1 := hT.1
      have hl := hk.1
      rw [e1] at q
      exact absurd (Classical.not_not.mp q) (nI_m1 (by omega))
theorem TrM_F {I' : MI} {t : TA} {a : Nat} (h : TrM I L a t) (hF : mF0 I I') : TrM I' L a t := by
  have n2 : I' 742 0 = I 742 0 := hF.1 742 0 (fun q => by rcases q.1 with z | z | z <;> omega)
  have n3 : I' 743 0 = I 743 0 := hF.1 743 0 (fun q => by rcases q.1 with z | z | z <;> omega)
  unfold TrM
  rw [n2, n3]
  exact h
theorem m_judge {T : Nat → TA} {a w : Int32} {K : Int32 → MI → ML → Prop} (hd : 9 ≤ d) (hO : CoO R s P) (hc : CoM I R s P) (hT : ∀ i, i < 4 → tOk (T i) ∧ TrM I L i (T i)) (h2 : ¬ (is3 a ∧ is3 w) → K (-2) (ui I 704 0 0 0) L) (h3 : is3 a → is3 w → T a.toInt.toNat = none → K (-6) (ui I 704 0 0 0) L) (h1 : ∀ so n f, is3 a → is3 w → T a.toInt.toNat = some (so, n, f) → ∀ I', CoM I' R s P → mFr I I' → K (jdO R s n f w) I' L) : CI d m_M_judge [vR 704 0, vI a, vI w] I L K := by
  have hR := hO.1
  have ew := Int32.toInt_toInt64 w
  have c0 : (0 : Int64).toInt = 0 := rfl
  have c3 : (3 : Int64).toInt = 3 := rfl
  have hc0 : CoM (ui I 704 0 0 0) R s P := CoM_cg hR hc t0_6
  refine toCI (n := 8) hd (r_M_judge_0 (c_M_within (by omega) (fun g1 g2 => ⟨fun _ => ?_, fun q => absurd (by decide) q⟩) (fun g => ⟨fun q => absurd rfl q, fun _ => ⟨_, rfl, h2 (fun z => g (by rw [ew, c0, c3]; exact z.2))⟩⟩)))
  rw [ew, c0] at g1
  rw [ew, c3] at g2
  have hw : is3 w := ⟨g1, g2⟩
  refine c_M_noTray (t := T a.toInt.toNat) (by omega) (fun z => ?_) (fun g => ⟨fun q => absurd q (by decide), fun _ => ⟨_, rfl, h2 (fun z => g z.1)⟩⟩) (fun g e => ⟨fun q => absurd q (by decide), fun _ => ⟨_, rfl, h3 g hw e⟩⟩) (fun so n f g e hso hn => ⟨fun _ => ?_, fun q => absurd rfl q⟩)
  · have := hT a.toInt.toNat (by have := z.1; have := z.2; omega)
    exact ⟨this.1, TrM_F this.2 t0_F⟩
  have ha4 : a.toInt.toNat < 4 := by have := g.1; have := g.2; omega
  have hTr := (hT a.toInt.toNat ha4).2
  rw [e] at hTr
  have ea := ge_nI g.1
  refine CoM_stores (by omega) hR hc0 (fun I1 hc1 hw1 ht1 hF1 => ?_)
  have fin := h1 so n f g hw e
  generalize a.toInt.toNat = a' at ea ha4 hTr
  rw [ea]
  refine c_M_tells (by omega) hR hO.2.1 hc1 ha4 hn (TrM_F hTr (t0_F.tr hF1)) (fun I2 hc2 h24 h72 ht2 hF2 => ?_)
  have hz := (dlN_Ok hR (f := f) n 0 s hO.2.1).2
  refine c_M_sumNow (by omega) hR hc2.1 hc2.2.1 hz (c_M_whoNow (by omega) hR hc2.1 hc2.2.1 hz (c_M_isAgain (by omega) (fun I3 hj hlo hS3 => ?_)))
  have n7 : I3 704 0 = I2 704 0 := hS3 704 0 (fun q => absurd q.1 (by decide))
  have hF3 : mF0 I2 I3 := n6_F hS3 (fun j q => hlo j (by omega))
  have hs3 : MSt (I3 706 0) s := MSt_20.mpr (hw1.cg (fun j q => by show I3 706 0 (62 + j) = I1 728 0 j; rw [hj j q, h72]))
  have hc3 : CoM I3 R s P := ⟨MRo_cg hR hc2.1 (fun j q => hlo j (by omega)), hs3, MPa_cg hc2.2.2 (fun j q _ => hlo j (by omega))⟩
  have fin := fin I3 hc3 ⟨((t0_F.tr hF1).tr hF2).tr hF3, by rw [n7, ht2, ht1, ui_s]⟩
  unfold jdO at fin
  rw [n7, h24]
  refine ⟨fun q0 => ⟨fun q1 => ⟨fun q2 => ⟨_, rfl, ?_⟩, fun q2 => ⟨_, rfl, ?_⟩⟩, fun q1 => ⟨_, rfl, ?_⟩⟩, fun q0 => ⟨fun qw => ⟨_, rfl, ?_⟩, fun qw => ⟨_, rfl, ?_⟩⟩⟩
  · rw [if_neg q0, if_neg q1, if_neg q2] at fin; exact fin
  · rw [if_neg q0, if_neg q1, if_pos (Classical.not_not.mp q2)] at fin; exact fin
  · rw [if_neg q0, if_pos (Classical.not_not.mp q1)] at fin; exact fin
  · rw [if_pos (Classical.not_not.mp q0)] at fin
    by_cases z : (dlN R f n 0 s).2 = n
    · rw [if_pos z] at qw; exact absurd rfl qw
    · rw [if_neg z] at fin; exact fin
  · rw [if_pos (Classical.not_not.mp q0)] at fin
    by_cases z : (dlN R f n 0 s).2 = n
    · rw [if_pos z] at fin; exact fin
    · rw [if_neg z] at qw; exact absurd (by decide) qw
theorem m_perform {T : Nat → TA} {a : Int32} {K : Int32 → MI → ML → Prop} (hd : 9 ≤ d) (hO : CoO R s P) (hc : CoM I R s P) (hT : ∀ i, i < 4 → tOk (T i) ∧ TrM I L i (T i)) (h2 : ¬ is3 a → K (-2) (ui I 704 0 0 0) L) (h3 : is3 a → T a.toInt.toNat = none → K (-6) (ui I 704 0 0 0) L) (h1 : ∀ so n f, is3 a → T a.toInt.toNat = some (so, n, f) → ∀ I', CoM I' R (dlN R f n 0 s).1 (pshN P s (dlN R f n 0 s).2) → mFr I I' → K (nI (dlN R f n 0 s).2) I' L) : CI d m_M_perform [vR 704 0, vI a] I L K := by
  have hR := hO.1
  have hc0 : CoM (ui I 704 0 0 0) R s P := CoM_cg hR hc t0_6
  refine toCI (n := 8) hd (r_M_perform_0 (c_M_noTray (t := T a.toInt.toNat) (by omega) (fun z => ?_) (fun g => ⟨fun q => absurd q (by decide), fun _ => ⟨_, rfl, h2 g⟩⟩) (fun g e => ⟨fun q => absurd q (by decide), fun _ => ⟨_, rfl, h3 g e⟩⟩) (fun so n f g e hso hn => ⟨fun _ => ?_, fun q => absurd rfl q⟩)))
  · have := hT a.toInt.toNat (by have := z.1; have := z.2; omega)
    exact ⟨this.1, TrM_F this.2 t0_F⟩
  have ha4 : a.toInt.toNat < 4 := by have := g.1; have := g.2; omega
  have hTr := (hT a.toInt.toNat ha4).2
  rw [e] at hTr
  have ea := ge_nI g.1
  refine CoM_stores (by omega) hR hc0 (fun I1 hc1 hw1 ht1 hF1 => ?_)
  have fin := h1 so n f g e
  generalize a.toInt.toNat = a' at ea ha4 hTr
  rw [ea]
  refine c_M_tells (by omega) hR hO.2.1 hc1 ha4 hn (TrM_F hTr (t0_F.tr hF1)) (fun I2 hc2 h24 h72 ht2 hF2 => ?_)
  have hle := (dlN_le (R := R) (f := f) n 0 s).2
  unfold pshN at fin
  refine ⟨fun q => ⟨_, rfl, ?_⟩, fun q => ?_⟩
  · have e0 : (dlN R f n 0 s).2 = 0 := by
      rcases Nat.eq_zero_or_pos (dlN R f n 0 s).2 with z | z
      · exact z
      · exact absurd q (nI_ge (a := 0) z (by omega))
    rw [if_pos e0] at fin
    exact fin I2 hc2 ⟨(t0_F.tr hF1).tr hF2, by rw [ht2, ht1, ui_s]⟩
  · have e0 : ¬ (dlN R f n 0 s).2 = 0 := fun z => q (by rw [z]; decide)
    rw [if_neg e0] at fin
    exact CoM_notes (s := s) (by omega) hR hc2 (by rw [h72]; exact hw1) (fun I3 hc3 _ ht3 hF3 => ⟨_, rfl, fin I3 hc3 ⟨((t0_F.tr hF1).tr hF2).tr hF3, by rw [ht3, ht2, ht1, ui_s]⟩⟩)
end TrayM

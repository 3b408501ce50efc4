/-! the law, case by case: feed, image, restore, road -/
section Rs
variable {xs : Nat → Int32} {Ls d : Nat} {I I1 I2 : MI} {L : ML} {R R' : RD} {s s' : SA} {P : List SA} {T : Nat → TA} {t t' : Nat → Int32} {N N' : Nat} {M : Nat → IA} {x : Int32} {Q : QT}
theorem LI_tp (h : LI xs Ls I L R s P T t N M) (p1 : TpC I1 t' N') (s1 : Same tkS I I1) (q2 : TpM I2 t' N') (j2 : ∀ j, j ≠ 5 → j ≠ 0 → I2 704 0 j = I1 704 0 j) (s2 : Same feS I1 I2) (tO : TpO t' N') : LI xs Ls I2 L R s P T t' N' M := by
  obtain ⟨⟨c1, r1, tc, -, m1⟩, ⟨c2, tm, -, n1⟩, ho, e2, e3, e4, e5⟩ := h
  have hS : Same (fun r b => (r = 64 ∨ r = 65 ∨ r = 704 ∨ r = 708) ∧ b = 0) I I2 := fun r b q => (s2 r b (fun z => by unfold feS at z; omega)).trans (s1 r b (fun z => by unfold tkS at z; omega))
  have a7 : ∀ j, j ≠ 5 → j ≠ 0 → I2 704 0 j = I 704 0 j := fun j x y => (j2 j x y).trans (by rw [s1 704 0 (by intro z; unfold tkS at z; omega)])
  refine ⟨⟨?_, ?_, ?_, ?_, ?_⟩, ⟨?_, ?_, q2, ?_⟩, ⟨ho.1, tO, ho.2.2⟩, ?_, ?_, ?_, ?_⟩
  · exact CoC_off c1 hS (fun r x y q => by omega) (fun r b x y _ q => by omega) (fun r x y q => by omega) (fun q => by omega)
  · exact RgA_same r1 hS (fun q => by omega) (fun q => by omega)
  · exact tsC_S tc (fun i => hS 640 i (by omega)) (fun i => rfl)
  · exact TpC_S p1 (by rw [s2 64 0 (by intro z; unfold feS at z; omega)]) (s2 65 0 (by intro z; unfold feS at z; omega))
  · exact fun i hi => ImC_S (m1 i hi) hS (fun q => by omega) (fun r x y q => by omega) (fun r x y q => by omega)
  · unfold CoM
    rw [hS 706 0 (by omega)]
    exact c2
  · exact tsM_S tm (hS 742 0 (by omega)) (hS 743 0 (by omega)) rfl
  · exact fun i hi => ImM_S (n1 i hi) (by rw [hS 707 0 (by omega)]) (fun j _ => by rw [hS 706 0 (by omega)]) (ho.2.2 i hi)
  · rw [hS 192 0 (by omega), a7 13 (by omega) (by omega)]; exact e2
  · rw [hS 192 0 (by omega), a7 14 (by omega) (by omega)]; exact e3
  · rw [hS 4002 0 (by omega)]; exact e4
  · rw [hS 4003 0 (by omega)]; exact e5
theorem l_feed (hd : 84 ≤ d) (h : LI xs Ls I L R s P T t N M) (hv : V5 x (I 4003 0 0).toNatClampNeg) (hk : KL d Ls xs Q x) : XX (d + 1) m_Lw_law Q 212 [vR 4002 0, vR 0 0, vR 704 0, vI x] [] I L := by
  obtain ⟨⟨c1, rg, tc, tp, im⟩, ⟨c2, tm, tq, iq⟩, ⟨hO, tO, iO⟩, e2, e3, e4, e5⟩ := id h
  obtain ⟨v1, v2, v3, v4, v5⟩ := hv
  exact r_Lw_law_212 ⟨v1, v2, v3, v4, v5, w_feed (by omega) tp tO
    (h0 := fun x0 => ⟨v1, v2, v3, v4, v5, m_feed (by omega) tq tO (h0 := fun _ => fin hk (LI_0 h) rfl) (h1 := fun y0 _ _ _ _ _ => absurd y0 x0)⟩)
    (h1 := fun x0 I1 p1 _ s1 => by
      rw [s1 4003 0 (by intro z; unfold tkS at z; omega), s1 4002 0 (by intro z; unfold tkS at z; omega)]
      exact ⟨v1, v2, v3, v4, v5, m_feed (by omega) (TpM_S tq (by rw [s1 704 0 (by intro z; unfold tkS at z; omega)]) (s1 708 0 (by intro z; unfold tkS at z; omega))) tO (h0 := fun y0 => absurd x0 y0)
        (h1 := fun _ I2 q2 j2 _ s2 => fin hk (LI_tp h p1 s1 q2 j2 s2 (fdT_O tO x0)) rfl)⟩)⟩
theorem LI_im {i : Nat} (h : LI xs Ls I L R s P T t N M) (hi : i < 2) (ic : ImC I1 i (some (R, s))) (d1 : CoC I1 R s P) (s1 : Same (imS i) I I1) (o1 : ∀ j, j ≠ i → I1 15 0 j = I 15 0 j) (jm : ImM I2 i (some (R, s))) (d2 : CoM I2 R s P) (o2 : ∀ j, j < 1184 * (i + 1) ∨ 1184 * (i + 2) ≤ j → I2 706 0 j = I1 706 0 j) (o3 : ∀ j, j ≠ i → I2 707 0 j = I1 707 0 j) (f : miF I1 I2) : LI xs Ls I2 L R s P T t N (fun j => if j = i then some (R, s) else M j) := by
  obtain ⟨⟨c1, r1, tc, p1, m1⟩, ⟨c2, tm, q1, n1⟩, ho, e2, e3, e4, e5⟩ := h
  obtain ⟨f1, f2, f3⟩ := f
  have hM : Same SM I1 I2 := fun r a q => f1 r a (fun z => q (by unfold SM; omega)) (fun z => q (by unfold SM; omega)) (fun z => q (by unfold SM; omega))
  have hi1 : ∀ r a, 704 ≤ r → I1 r a = I r a := fun r a hr => s1 r a (by intro q; unfold imS rdS stS at q; omega)
  have a7 : ∀ j, j ≠ 0 → I2 704 0 j = I 704 0 j := fun j x => (f2 j x).trans (by rw [hi1 704 0 (by omega)])
  refine ⟨⟨CoC_SM d1 hM, ?_, ?_, ?_, ?_⟩, ⟨d2, ?_, ?_, ?_⟩, ⟨ho.1, ho.2.1, ?_⟩, ?_, ?_, ?_, ?_⟩
  · exact RgA_SM (RgA_same r1 s1 (by intro q; unfold imS rdS stS at q; omega) (by intro q; unfold imS rdS stS at q; omega)) hM
  · exact tsC_S tc (fun k => (f1 640 k (by omega) (by omega) (by omega)).trans (s1 640 k (by intro q; unfold imS rdS stS at q; omega))) (fun k => rfl)
  · exact TpC_S p1 (by rw [f1 64 0 (by omega) (by omega) (by omega), s1 64 0 (by intro q; unfold imS rdS stS at q; omega)]) ((f1 65 0 (by omega) (by omega) (by omega)).trans (s1 65 0 (by intro q; unfold imS rdS stS at q; omega)))
  · intro j hj
    show ImC I2 j (if j = i then some (R, s) else M j)
    by_cases e : j = i
    · subst e
      rw [if_pos rfl]
      exact ImC_S ic hM (by intro q; unfold SM at q; omega) (fun r x y q => by unfold SM at q; omega) (fun r x y q => by unfold SM at q; omega)
    · rw [if_neg e]
      have h1 : ImC I1 j (M j) := by
        have h0 := m1 j hj
        cases hm : M j with
        | none =>
          rw [hm] at h0
          show I1 15 0 j = 0
          rw [o1 j e]
          exact h0
        | some z =>
          rw [hm] at h0
          obtain ⟨b1, b2, b3⟩ := h0
          exact ⟨by rw [o1 j e]; exact b1, b2.same s1 (fun r x y q => by unfold imS rdS stS at q; omega), b3.same s1 (by intro q; unfold imS rdS stS at q; omega) (by intro q; unfold imS rdS stS at q; omega) (by intro q; unfold imS rdS stS at q; omega) (by intro q; unfold imS rdS stS at q; omega)⟩
      exact ImC_S h1 hM (by intro q; unfold SM at q; omega) (fun r x y q => by unfold SM at q; omega) (fun r x y q => by unfold SM at q; omega)
  · exact tsM_S tm ((f1 742 0 (by omega) (by omega) (by omega)).trans (hi1 742 0 (by omega))) ((f1 743 0 (by omega) (by omega) (by omega)).trans (hi1 743 0 (by omega))) rfl
  · exact TpM_S q1 (a7 5 (by omega)) ((f1 708 0 (by omega) (by omega) (by omega)).trans (hi1 708 0 (by omega)))
  · intro j hj
    show ImM I2 j (if j = i then some (R, s) else M j)
    by_cases e : j = i
    · subst e
      rw [if_pos rfl]
      exact jm
    · rw [if_neg e]
      exact ImM_S (n1 j hj) ((o3 j e).trans (by rw [hi1 707 0 (by omega)])) (fun k hk => (o2 _ (by omega)).trans (by rw [hi1 706 0 (by omega)])) (ho.2.2 j hj)
  · intro j hj
    show ImO (if j = i then some (R, s) else M j)
    by_cases e : j = i
    · rw [if_pos e]
      exact ⟨ho.1.1, ho.1.2.1⟩
    · rw [if_neg e]
      exact ho.2.2 j hj
  · rw [f1 192 0 (by omega) (by omega) (by omega), s1 192 0 (by intro q; unfold imS rdS stS at q; omega), a7 13 (by omega)]; exact e2
  · rw [f1 192 0 (by omega) (by omega) (by omega), s1 192 0 (by intro q; unfold imS rdS stS at q; omega), a7 14 (by omega)]; exact e3
  · rw [f1 4002 0 (by omega) (by omega) (by omega), hi1 4002 0 (by omega)]; exact e4
  · rw [f1 4003 0 (by omega) (by omega) (by omega), hi1 4003 0 (by omega)]; exact e5
theorem is1_n {a : Int32} {i : Nat} (hi : i < 2) (e : a = nI i) : is1 a := by
  rw [e]
  unfold is1
  rw [nI_toInt (by omega)]
  omega
theorem l_image (hd : 84 ≤ d) (h : LI xs Ls I L R s P T t N M) (hv : V5 x (I 4003 0 0).toNatClampNeg) (hk : KL d Ls xs Q x) : XX (d + 1) m_Lw_law Q 1358 [vR 4002 0, vR 0 0, vR 704 0, vI x] [] I L := by
  obtain ⟨⟨c1, rg, tc, tp, im⟩, ⟨c2, tm, tq, iq⟩, ⟨hO, tO, iO⟩, e2, e3, e4, e5⟩ := id h
  exact r_Lw_law_1358 ⟨hv.1, w_image (by omega) hO c1
    (h2 := fun x0 => ⟨hv.1, m_image (by omega) hO c2 (h2 := fun _ => fin hk (LI_0 h) rfl) (h1 := fun i y0 y1 _ _ _ _ _ _ => absurd (is1_n y0 y1) x0)⟩)
    (h1 := fun i x0 x1 I1 j1 d1 s1 o1 => by
      have hi1 : ∀ r a, 704 ≤ r → I1 r a = I r a := fun r a hr => s1 r a (by intro q; unfold imS rdS stS at q; omega)
      rw [hi1 4003 0 (by omega), hi1 4002 0 (by omega)]
      have c2' : CoM I1 R s P := by
        unfold CoM
        rw [hi1 706 0 (by omega)]
        exact c2
      exact ⟨hv.1, m_image (by omega) hO c2' (h2 := fun y0 => absurd (is1_n x0 x1) y0) (h1 := fun i' y0 y1 I2 jm d2 o2 o3 f => by
        have e := nI_1u x1 y1 (by omega) (by omega)
        subst e
        exact fin hk (LI_im h x0 j1 d1 s1 o1 jm d2 o2 o3 f) rfl)⟩)⟩
theorem av_re : avo reS := by
  refine ⟨?_, ?_, ?_, ?_, ?_, ?_⟩ <;> intros <;> intro q <;> unfold reS rdS cdS goS rgS at q <;> omega
theorem re_m (h : Same reS I I1) : ∀ r a, 704 ≤ r → I1 r a = I r a := fun r a hr => h r a (by intro q; unfold reS rdS cdS goS rgS at q; omega)
theorem LI_re (h : LI xs Ls I L R s P T t N M) (d1 : CoC I1 R' s' []) (r1 : RgA I1 R') (s1 : Same reS I I1) (d2 : CoM I2 R' s' []) (o2 : ∀ j, 1184 ≤ j → I2 706 0 j = I1 706 0 j) (o3 : I2 707 0 = I1 707 0) (f : miF I1 I2) (hO : CoO R' s' []) : LI xs Ls I2 L R' s' [] T t N M := by
  obtain ⟨hw, hm, ho, e2, e3, e4, e5⟩ := h
  obtain ⟨f1, f2, f3⟩ := f
  have hM : Same SM I1 I2 := fun r a q => f1 r a (fun z => q (by unfold SM; omega)) (fun z => q (by unfold SM; omega)) (fun z => q (by unfold SM; omega))
  have hi1 := re_m s1
  have w1 : Wc I1 L R' s' [] T t N M := Wc_S hw s1 av_re (fun _ => rfl) d1 r1
  have w2 : Wc I2 L R' s' [] T t N M := Wc_S w1 hM av_SM (fun _ => rfl) (CoC_SM d1 hM) (RgA_SM r1 hM)
  obtain ⟨-, tm, q1, n1⟩ : Wm I1 L R s P T t N M := Wm_S hm (fun r x _ => hi1 r 0 x) rfl
  have a7 : ∀ j, j ≠ 0 → I2 704 0 j = I 704 0 j := fun j x => (f2 j x).trans (by rw [hi1 704 0 (by omega)])
  refine ⟨w2, ⟨d2, tsM_S tm (f1 742 0 (by omega) (by omega) (by omega)) (f1 743 0 (by omega) (by omega) (by omega)) rfl, TpM_S q1 (f2 5 (by omega)) (f1 708 0 (by omega) (by omega) (by omega)), fun i hi => ImM_S (n1 i hi) (by rw [o3]) (fun j hj => o2 _ (by omega)) (ho.2.2 i hi)⟩, ⟨hO, ho.2.1, ho.2.2⟩, ?_, ?_, ?_, ?_⟩
  · rw [f1 192 0 (by omega) (by omega) (by omega), s1 192 0 (by intro q; unfold reS rdS cdS goS rgS at q; omega), a7 13 (by omega)]; exact e2
  · rw [f1 192 0 (by omega) (by omega) (by omega), s1 192 0 (by intro q; unfold reS rdS cdS goS rgS at q; omega), a7 14 (by omega)]; exact e3
  · rw [f1 4002 0 (by omega) (by omega) (by omega), hi1 4002 0 (by omega)]; exact e4
  · rw [f1 4003 0 (by omega) (by omega) (by omega), hi1 4003 0 (by omega)]; exact e5
theorem l_restore (hd : 84 ≤ d) (h : LI xs Ls I L R s P T t N M) (hv : V5 x (I 4003 0 0).toNatClampNeg) (hk : KL d Ls xs Q x) : XX (d + 1) m_Lw_law Q 1381 [vR 4002 0, vR 0 0, vR 704 0, vI x] [] I L := by
  obtain ⟨⟨c1, rg, tc, tp, im⟩, ⟨c2, tm, tq, iq⟩, ⟨hO, tO, iO⟩, e2, e3, e4, e5⟩ := id h
  obtain ⟨-, pe, hpe, pe1, -⟩ := c1.2.2.2
  exact r_Lw_law_1381 ⟨hv.1, w_restore (by omega) ⟨pe, hpe, pe1⟩ (fun i hi => ⟨im i hi, iO i hi⟩)
    (h2 := fun x0 => ⟨hv.1, m_restore (by omega) (fun i hi => ⟨iq i hi, iO i hi⟩) (h2 := fun _ => fin hk (LI_0 h) rfl) (h5 := fun i y0 y1 _ => absurd (is1_n y0 y1) x0) (h1 := fun i _ y0 y1 _ _ _ _ _ _ => absurd (is1_n y0 y1) x0)⟩)
    (h5 := fun i x0 x1 x2 => ⟨hv.1, m_restore (by omega) (fun i hi => ⟨iq i hi, iO i hi⟩) (h2 := fun y0 => absurd (is1_n x0 x1) y0) (h5 := fun i' _ _ _ => fin hk (LI_0 h) rfl) (h1 := fun i' z y0 y1 y2 _ _ _ _ _ => by
      have e := nI_1u x1 y1 (by omega) (by omega)
      subst e
      rw [x2] at y2
      cases y2)⟩)
    (h1 := fun i z x0 x1 x2 I1 d1 r1 s1 => by
      have hi1 := re_m s1
      rw [hi1 4003 0 (by omega), hi1 4002 0 (by omega)]
      obtain ⟨-, -, -, n1⟩ : Wm I1 L R s P T t N M := Wm_S h.2.1 (fun r x _ => hi1 r 0 x) rfl
      have hz := iO i x0
      rw [x2] at hz
      exact ⟨hv.1, m_restore (by omega) (fun i hi => ⟨n1 i hi, iO i hi⟩) (h2 := fun y0 => absurd (is1_n x0 x1) y0) (h5 := fun i' y0 y1 y2 => by
          have e := nI_1u x1 y1 (by omega) (by omega)
          subst e
          rw [x2] at y2
          cases y2)
        (h1 := fun i' z' y0 y1 y2 I2 d2 o2 o3 f => by
          have e := nI_1u x1 y1 (by omega) (by omega)
          subst e
          rw [x2] at y2
          cases y2
          exact fin hk (LI_re h d1 r1 s1 d2 o2 o3 f ⟨hz.1, hz.2, fun p hp => absurd hp List.not_mem_nil⟩) rfl)⟩)⟩
/-! a road is told -/
theorem ro_m (h : Same roS I I1) : ∀ r a, 704 ≤ r → I1 r a = I r a := fun r a hr => h r a (by intro q; unfold roS rfS reS rdS cdS goS rgS at q; omega)
theorem rf_ro (h : Same rfS I I1) : Same roS I I1 := h.mono (fun _ _ q => Or.inl q)
theorem LI_ro (h : LI xs Ls I L R s P T t N M) (d1 : CoC I1 R' s' P) (r1 : RgA I1 R') (s1 : Same roS I I1) (z1 : I1 64 0 1 = 0) (d2 : CoM I2 R' s' P) (f : mrF I1 I2) (z2 : I2 704 0 5 = 0) (hO : CoO R' s' P) (g1 : I1 192 0 2 = I2 704 0 13) (g2 : I1 192 0 3 = I2 704 0 14) : LI xs Ls I2 L R' s' P T t 0 M := by
  obtain ⟨⟨-, -, tc, -, m1⟩, hm, ho, e2, e3, e4, e5⟩ := h
  obtain ⟨f1, f2, f3, f4⟩ := f
  have hM : Same SM I1 I2 := fun r a q => f1 r a (fun z => q (by unfold SM; omega)) (fun z => q (by unfold SM; omega)) (fun z => q (by unfold SM; omega))
  have hi1 := ro_m s1
  obtain ⟨-, tm, q1, n1⟩ : Wm I1 L R s _ T t N M := Wm_S hm (fun r x _ => hi1 r 0 x) rfl
  refine ⟨⟨CoC_SM d1 hM, RgA_SM r1 hM, ?_, ?_, ?_⟩, ⟨d2, ?_, ?_, ?_⟩, ⟨hO, ⟨by omega, fun i hi => absurd hi (Nat.not_lt_zero _)⟩, ho.2.2⟩, ?_, ?_, ?_, ?_⟩
  · exact tsC_S tc (fun k => (hM 640 k (by intro q; unfold SM at q; omega)).trans (s1 640 k (by intro q; unfold roS rfS reS rdS cdS goS rgS at q; omega))) (fun k => rfl)
  · exact ⟨by rw [hM 64 0 (by intro q; unfold SM at q; omega), z1]; rfl, fun i hi => absurd hi (Nat.not_lt_zero _)⟩
  · exact fun i hi => ImC_S (ImC_S (m1 i hi) s1 (by intro q; unfold roS rfS reS rdS cdS goS rgS at q; omega) (fun r x y q => by unfold roS rfS reS rdS cdS goS rgS at q; omega) (fun r x y q => by unfold roS rfS reS rdS cdS goS rgS at q; omega)) hM (by intro q; unfold SM at q; omega) (fun r x y q => by unfold SM at q; omega) (fun r x y q => by unfold SM at q; omega)
  · exact tsM_S tm (f1 742 0 (by omega) (by omega) (by omega)) (f1 743 0 (by omega) (by omega) (by omega)) rfl
  · exact ⟨by rw [z2]; rfl, fun i hi => absurd hi (Nat.not_lt_zero _)⟩
  · exact fun i hi => ImM_S (n1 i hi) (by rw [f1 707 0 (by omega) (by omega) (by omega)]) (fun j hj => f2 _ (by omega)) (ho.2.2 i hi)
  · rw [hM 192 0 (by intro q; unfold SM at q; omega)]; exact g1
  · rw [hM 192 0 (by intro q; unfold SM at q; omega)]; exact g2
  · rw [f1 4002 0 (by omega) (by omega) (by omega), hi1 4002 0 (by omega)]; exact e4
  · rw [f1 4003 0 (by omega) (by omega) (by omega), hi1 4003 0 (by omega)]; exact e5
theorem LI_ro' (h : LI xs Ls I L R s P T t N M) (d1 : CoC I1 R' s' []) (r1 : RgA I1 R') (s1 : Same roS I I1) (z1 : I1 64 0 1 = 0) (d2 : CoM I2 R' s' []) (f : mrF I1 I2) (z2 : I2 704 0 5 = 0) (hO : CoO R' s' []) (g1 : I1 192 0 2 = I2 704 0 13) (g2 : I1 192 0 3 = I2 704 0 14) : LI xs Ls I2 L R' s' [] T t 0 M := by
  obtain ⟨⟨-, -, tc, -, m1⟩, hm, ho, e2, e3, e4, e5⟩ := h
  obtain ⟨f1, f2, f3, f4⟩ := f
  have hM : Same SM I1 I2 := fun r a q => f1 r a (fun z => q (by unfold SM; omega)) (fun z => q (by unfold SM; omega)) (fun z => q (by unfold SM; omega))
  have hi1 := ro_m s1
  obtain ⟨-, tm, q1, n1⟩ : Wm I1 L R s P T t N M := Wm_S hm (fun r x _ => hi1 r 0 x) rfl
  refine ⟨⟨CoC_SM d1 hM, RgA_SM r1 hM, ?_, ?_, ?_⟩, ⟨d2, ?_, ?_, ?_⟩, ⟨hO, ⟨by omega, fun i hi => absurd hi (Nat.not_lt_zero _)⟩, ho.2.2⟩, ?_, ?_, ?_, ?_⟩
  · exact tsC_S tc (fun k => (hM 640 k (by intro q; unfold SM at q; omega)).trans (s1 640 k (by intro q; unfold roS rfS reS rdS cdS goS rgS at q; omega))) (fun k => rfl)
  · exact ⟨by rw [hM 64 0 (by intro q; unfold SM at q; omega), z1]; rfl, fun i hi => absurd hi (Nat.not_lt_zero _)⟩
  · exact fun i hi => ImC_S (ImC_S (m1 i hi) s1 (by intro q; unfold roS rfS reS rdS cdS goS rgS at q; omega) (fun r x y q => by unfold roS rfS reS rdS cdS goS rgS at q; omega) (fun r x y q => by unfold roS rfS reS rdS cdS goS rgS at q; omega)) hM (by intro q; unfold SM at q; omega) (fun r x y q => by unfold SM at q; omega) (fun r x y q => by unfold SM at q; omega)
  · exact tsM_S tm (f1 742 0 (by omega) (by omega) (by omega)) (f1 743 0 (by omega) (by omega) (by omega)) rfl
  · exact ⟨by rw [z2]; rfl, fun i hi => absurd hi (Nat.not_lt_zero _)⟩
  · exact fun i hi => ImM_S (n1 i hi) (by rw [f1 707 0 (by omega) (by omega) (by omega)]) (fun j hj => f2 _ (by omega)) (ho.2.2 i hi)
  · rw [hM 192 0 (by intro q; unfold SM at q; omega)]; exact g1
  · rw [hM 192 0 (by intro q; unfold SM at q; omega)]; exact g2
  · rw [f1 4002 0 (by omega) (by omega) (by omega), hi1 4002 0 (by omega)]; exact e4
  · rw [f1 4003 0 (by omega) (by omega) (by omega), hi1 4003 0 (by omega)]; exact e5
theorem in_n {a : Int32} {n : Nat} (hn : n ≤ N) (hN : N ≤ 900) (e : a = nI n) : 0 ≤ a.toInt ∧ a.toInt ≤ N := by
  rw [e, nI_toInt (by omega)]
  omega
theorem l_road (hd : 84 ≤ d) (h : LI xs Ls I L R s P T t N M) (hv : V5 x (I 4003 0 0).toNatClampNeg) (hk : KL d Ls xs Q x) : XX (d + 1) m_Lw_law Q 275 [vR 4002 0, vR 0 0, vR 704 0, vI x] [] I L := by
  obtain ⟨⟨c1, rg, tc, tp, im⟩, ⟨c2, tm, tq, iq⟩, ⟨hO, tO, iO⟩, e2, e3, e4, e5⟩ := id h
  obtain ⟨-, pe, hpe, pe1, -⟩ := c1.2.2.2
  have hN := tO.1
  refine r_Lw_law_275 ⟨hv.1, w_road (by omega) tp tO ⟨pe, hpe, pe1⟩
    (h3 := fun x0 => ⟨hv.1, m_road (by omega) tq tO (h3 := fun _ => fin hk (LI_0 h) rfl) (h0 := fun n _ y0 y1 _ _ _ _ _ _ _ => absurd (in_n y0 hN y1) x0) (h1 := fun n _ _ y0 y1 _ _ _ _ _ _ _ _ _ => absurd (in_n y0 hN y1) x0)⟩)
    (h0 := fun n z x0 x1 x2 I1 ft z1 s1 => ?_)
    (h1 := fun n u R1 x0 x1 x2 I1 hu hR d1 r1 g1 g2 z1 s1 => ?_)⟩
  · have hi1 := ro_m (rf_ro s1)
    rw [hi1 4003 0 (by omega), hi1 4002 0 (by omega)]
    have tq1 : TpM I1 t N := TpM_S tq (by rw [hi1 704 0 (by omega)]) (hi1 708 0 (by omega))
    refine ⟨hv.1, m_road (by omega) tq1 tO (h3 := fun y0 => absurd (in_n x0 hN x1) y0) (h0 := fun n' z' y0 y1 y2 I2 b1 b2 z2 f e6 => ?_) (h1 := fun n' u' R' y0 y1 y2 _ _ _ _ _ _ _ _ => ?_)⟩
    · have e := nI_1u x1 y1 (by omega) (by omega)
      subst e
      rw [x2] at y2
      cases y2
      have d1 : CoC I1 R s P := CoC_off c1 s1 (fun r x y q => by unfold rfS rdS at q; omega) (fun r b x y _ q => by unfold rfS rdS at q; omega) (fun r x y q => by unfold rfS rdS at q; omega) (fun q => by unfold rfS rdS at q; omega)
      have r1 : RgA I1 R := RgA_same rg s1 (by intro q; unfold rfS rdS at q; omega) (by intro q; unfold rfS rdS at q; omega)
      have d2 : CoM I2 R s P := by
        unfold CoM
        rw [e6, hi1 706 0 (by omega)]
        exact c2
      exact fin hk (LI_ro h d1 r1 (rf_ro s1) z1 d2 f z2 hO (ft.1.trans b1.symm) (ft.2.2.2.trans b2.symm)) rfl
    · have e := nI_1u x1 y1 (by omega) (by omega)
      subst e
      rw [x2] at y2
      cases y2
  · have hi1 := ro_m s1
    rw [hi1 4003 0 (by omega), hi1 4002 0 (by omega)]
    have tq1 : TpM I1 t N := TpM_S tq (by rw [hi1 704 0 (by omega)]) (hi1 708 0 (by omega))
    refine ⟨hv.1, m_road (by omega) tq1 tO (h3 := fun y0 => absurd (in_n x0 hN x1) y0) (h0 := fun n' z' y0 y1 y2 _ _ _ _ _ _ => ?_) (h1 := fun n' u' R' y0 y1 y2 I2 hu' hR' d2 b1 b2 z2 f => ?_)⟩
    · have e := nI_1u x1 y1 (by omega) (by omega)
      subst e
      rw [x2] at y2
      cases y2
    · have e := nI_1u x1 y1 (by omega) (by omega)
      subst e
      rw [x2] at y2
      cases y2
      exact fin hk (LI_ro' h d1 r1 s1 z1 d2 f z2 ⟨hR, st0_Ok hu, fun p hp => absurd hp List.not_mem_nil⟩ (g1.trans b1.symm) (g2.trans b2.symm)) rfl
end Rs

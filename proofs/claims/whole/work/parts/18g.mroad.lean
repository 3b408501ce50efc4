/-! the reference reads a text and goes by it -/
def mrF (I I' : MI) : Prop := (∀ r a, r ≠ 704 → r ≠ 706 → r ≠ 709 → I' r a = I r a) ∧ (∀ j, 1184 ≤ j → I' 706 0 j = I 706 0 j) ∧ (∀ j, (j ≠ 0 ∧ j < 5) ∨ 15 < j → I' 704 0 j = I 704 0 j) ∧ I' 704 0 0 = 0
theorem lawE_M {f : Nat → Int32} {j m : Nat} {o : Option DN} (h : lawE f j m o) (hm : m ≤ 900) : lawM f j o := by
  cases o with
  | none => exact h
  | some g =>
    obtain ⟨h1, b, cs, h6, h8, hl, hc, hg⟩ := h
    exact ⟨h1, b, cs, h6, h8, by omega, hc, hg⟩
theorem DrM_R {f : Nat → Int32} {R : RD} {mu m : Nat} (h : DrM f R mu m) (hm : m ≤ 900) : MRo f R := by
  obtain ⟨⟨h2, h3, h1, h0, hcs, hws⟩, hT, hU, h283, h80, h6⟩ := h
  exact ⟨h2, h3, h1, h0, hcs, hws, lawE_M hT hm, lawE_M hU hm⟩
theorem DrM_S {f : Nat → Int32} {R : RD} {mu m : Nat} (h : DrM f R mu m) : MSt f (st0 (nI mu)) ∧ MPa f [] := by
  obtain ⟨_, hT, hU, h283, h80, h6⟩ := h
  exact ⟨⟨fun c hc => ⟨h6 _ (by omega) (by omega) (by omega), h6 _ (by omega) (by omega) (by omega), h6 _ (by omega) (by omega) (by omega)⟩, h80, h6 81 (by omega) (by omega) (by omega)⟩, by show 0 ≤ 10; omega, h6 82 (by omega) (by omega) (by omega), fun k hk => absurd hk (Nat.not_lt_zero _)⟩
section RoadM
variable {d : Nat} {I : MI} {L : ML} {B : Nat → Nat} {t : Nat → Int32} {n N mu : Nat}
theorem c_M_plain9 {K : MI → ML → Prop} (hd : 1 ≤ d) (h : ∀ I', (∀ j, j < 1184 → I' 709 0 j = if j = 1 then 1 else 0) → (∀ r a, ¬ (r = 709 ∧ a = 0) → I' r a = I r a) → K I' L) : CV d m_M_plain [vR 709 0] I L K := by
  refine toCV (n := 0) hd (r_M_plainF_0 ?_)
  have key : ∀ (m k : Nat) (J : MI), k + m = 1184 → (∀ j, j < k → J 709 0 j = 0) → (∀ r a, ¬ (r = 709 ∧ a = 0) → J r a = I r a) → XX (0 + 1) m_M_plain (fun r I' L' => r = none ∧ K I' L') 2 [vR 709 0, vI (nI k)] [] J L := by
    intro m
    induction m with
    | zero =>
      intro k J hk h0 ho
      refine r_M_plainF_2 ⟨fun _ => ⟨rfl, h _ (fun j hj => ?_) (fun r a q => by rw [ui_off q]; exact ho r a q)⟩, fun q => absurd (nI_le (a := 1184) (b := k) (by omega) (by omega)) q⟩
      by_cases e : j = 1
      · rw [if_pos e, e, ui_s]
      · rw [if_neg e, ui_k e]; exact h0 j (by omega)
    | succ m ih =>
      intro k J hk h0 ho
      refine r_M_plainF_2 ?_
      rw [nI_1, cl_n (by omega)]
      refine ⟨fun q => absurd q (nle_c (m := 1184) (by omega) (by omega)), fun _ => ⟨vin (by omega) (by omega), ih (k + 1) _ (by omega) (fun j hj => ?_) (fun r a q => by rw [ui_off q]; exact ho r a q)⟩⟩
      by_cases e : j = k
      · rw [e, ui_s]
      · rw [ui_k e]; exact h0 j (by omega)
  exact key 1184 0 I (by omega) (fun j hj => absurd hj (Nat.not_lt_zero _)) (fun _ _ _ => rfl)
theorem x_M_copy {Q : QT} {J0 : MI} (h : ∀ I', (∀ j, j < 1184 → I' 706 0 j = J0 709 0 j) → (∀ j, 1184 ≤ j → I' 706 0 j = J0 706 0 j) → (∀ r a, ¬ (r = 706 ∧ a = 0) → I' r a = J0 r a) → Q (some (vI (J0 709 0 0))) I' L) : XX (d + 1) m_M_road Q 170 [vR 704 0, vD, vI 0] [] J0 L := by
  have key : ∀ (m k : Nat) (J : MI), k + m = 1184 → (∀ j, j < k → J 706 0 j = J0 709 0 j) → (∀ j, 1184 ≤ j → J 706 0 j = J0 706 0 j) → (∀ r a, ¬ (r = 706 ∧ a = 0) → J r a = J0 r a) → XX (d + 1) m_M_road Q 170 [vR 704 0, vD, vI (nI k)] [] J L := by
    intro m
    induction m with
    | zero =>
      intro k J hk h0 h1 ho
      refine r_M_road_170 ⟨fun _ => ?_, fun q => absurd (nI_le (a := 1184) (b := k) (by omega) (by omega)) q⟩
      rw [h0 0 (by omega)]
      exact h J (fun j hj => h0 j (by omega)) h1 ho
    | succ m ih =>
      intro k J hk h0 h1 ho
      refine r_M_road_170 ?_
      rw [nI_1, cl_n (by omega)]
      refine ⟨fun q => absurd q (nle_c (m := 1184) (by omega) (by omega)), fun _ => ⟨vin (by omega) (by omega), vin (by omega) (by omega), ih (k + 1) _ (by omega) (fun j hj => ?_) (fun j hj => by rw [ui_k (by omega)]; exact h1 j hj) (fun r a q => by rw [ui_off q]; exact ho r a q)⟩⟩
      by_cases e : j = k
      · rw [e, ui_s, ho 709 0 (by omega)]
      · rw [ui_k e]; exact h0 j (by omega)
  exact key 1184 0 J0 (by omega) (fun j hj => absurd hj (Nat.not_lt_zero _)) (fun _ _ => rfl) (fun _ _ _ => rfl)
theorem x_M_bad {Q : QT} {J : MI} {k pl : Nat} (hF : FtM J k pl) (h : Q (some (vI (-30 - nI k))) (ui (ui J 704 0 13 (nI k)) 704 0 14 (nI pl)) L) : XX (d + 1) m_M_road Q 99 [vR 704 0, vD, vD] [] J L := by
  have e1 : ∀ x, ui J 704 0 13 x 704 0 11 = nI k := fun x => by rw [ui_k (by omega)]; exact hF.1
  have e2 : ∀ x, ui J 704 0 13 x 704 0 12 = nI pl := fun x => by rw [ui_k (by omega)]; exact hF.2.2.2
  have e3 : ∀ x y, ui (ui J 704 0 13 x) 704 0 14 y 704 0 11 = nI k := fun x y => by rw [ui_k (by omega)]; exact e1 x
  have ne : ¬ nI k = 0 := by rw [← hF.1]; exact FtM_ne hF
  refine r_M_road_99 ⟨fun _ => ?_, fun z => absurd (FtM_ne hF) z⟩
  rw [hF.1, e1, e2, e3]
  exact ⟨fun _ => ⟨fun z => absurd z ne, fun _ => h⟩, fun z => absurd ne z⟩
theorem lpsM {I0 : MI} {Q : QT} (hd : 83 ≤ d) : ∀ (f : Nat) (R : RD) (p m : Nat) (J : MI) (o : LO RD), n - p < f → WF R → PsM J B n p → DrM (J 709 0) R mu m → m ≤ p → frG I0 J → lpsO B n f R p = o → (∀ J x, FtM J x.1 x.2 → frG I0 J → o = Sum.inl x → Q (some (vI (-30 - nI x.1))) (ui (ui J 704 0 13 (nI x.1)) 704 0 14 (nI x.2)) L) → (∀ J R m, WF R → DrM (J 709 0) R mu m → m ≤ 900 → frG I0 J → o = Sum.inr R → XX (d + 1) m_M_road Q 170 [vR 704 0, vD, vI 0] [] (ui (ui J 704 0 13 0) 704 0 14 (-1)) L) → XX (d + 1) m_M_road Q 99 [vR 704 0, vD, vD] [] J L := by
  intro f
  induction f with
  | zero => intro R p m J o h; omega
  | succ f ih =>
    intro R p m J o hf hW hP hD hm hF ho hbad hok
    have hp := hP.2.2.1
    have hn := hP.1.2.1
    have ho : (if (tkn B n p).1 = 24 then Sum.inr R else bnL (lineO B n R p) (fun x => bnL (clsO B n x.2 x.1) (fun y => lpsO B n f y.2 y.1))) = o := ho
    have e11 : J 704 0 11 = 0 := hP.2.2.2
    have e9 : J 704 0 9 = nI (tkn B n p).1 := hP.2.1.2.2.1
    have hl := tk_lt (B := B) hp
    have e1 : ∀ x, ui J 704 0 13 x 704 0 11 = 0 := fun x => by rw [ui_k (by omega)]; exact e11
    have e3 : ∀ x y, ui (ui J 704 0 13 x) 704 0 14 y 704 0 11 = 0 := fun x y => by rw [ui_k (by omega)]; exact e1 x
    refine r_M_road_99 ⟨fun z => absurd e11 z, fun _ => ⟨fun q => ⟨fun z => absurd (e1 _) z, fun _ => ⟨fun _ => ?_, fun z => absurd (e3 _ _) z⟩⟩, fun q => ?_⟩⟩
    · rw [e9] at q
      have q := (nI_eq (b := 24) (by omega) (by omega)).mp q
      rw [if_pos q] at ho
      rw [e11]
      exact hok J R m hW hD (by omega) hF ho.symm
    · have e : (tkn B n p).1 ≠ 24 := fun z => q (by rw [e9, z]; rfl)
      rw [if_neg e] at ho
      refine c_M_readLine hd hW hP hD hm (fun J1 h1 => ?_)
      rcases bnL_cs ho with ⟨x, ex, er⟩ | ⟨y, ey, k1⟩
      · rw [ex] at h1
        exact c_M_closesF (by omega) h1.1 (fun J2 f2 r2 => x_M_bad f2 (hbad J2 x f2 ((hF.tr h1.2).tr r2) er))
      · rw [ey] at h1
        obtain ⟨P1, F1, l1, W1, m1, hm1, D1⟩ := h1
        refine c_M_closes (by omega) W1 P1 D1 hm1 (fun J2 h2 => ?_)
        rcases bnL_cs k1 with ⟨x, ex, er⟩ | ⟨z, ez, k2⟩
        · rw [ex] at h2
          exact x_M_bad h2.1 (hbad J2 x h2.1 ((hF.tr F1).tr h2.2) er)
        · have lt := cls_lt P1.2.2.1 ez
          rw [ez] at h2
          obtain ⟨P2, F2, l2, W2, m2, hm2, D2⟩ := h2
          have l2n := P2.2.2.1
          exact ih z.2 z.1 m2 J2 o (by omega) W2 P2 D2 hm2 ((hF.tr F1).tr F2) k2 hbad hok
theorem DrM_1 {f g : Nat → Int32} {R : RD} {mu m v : Nat} (hW : WF R) (h : DrM f R mu m) (e : ∀ j, j ≠ 1 → g j = f j) (e1 : g 1 = nI v) : DrM g (setP R v) mu m := by
  have hC := hW.1
  have hW2 := hW.2.1
  obtain ⟨⟨h2, h3, h1, h0, hcs, hws⟩, hT, hU, h283, h80, h6⟩ := h
  refine ⟨⟨by rw [e _ (by omega)]; exact h2, by rw [e _ (by omega)]; exact h3, e1, by rw [e _ (by omega)]; exact h0, fun c hc => ?_, fun w hw => ?_⟩, lawE_k hT (e _ (by omega)) (e _ (by omega)) (e _ (by omega)) (fun q _ => e _ (by omega)) (Nat.le_refl _), lawE_k hU (e _ (by omega)) (e _ (by omega)) (e _ (by omega)) (fun q _ => e _ (by omega)) (Nat.le_refl _), by rw [e _ (by omega)]; exact h283, by rw [e _ (by omega)]; exact h80, fun j y1 y2 y3 => by rw [e _ (by omega)]; exact h6 j y1 y2 y3⟩
  · rw [e _ (by omega), e _ (by omega)]; exact hcs c hc
  · rw [e _ (by omega), e _ (by omega), e _ (by omega), e _ (by omega)]; exact hws w hw
theorem DrM_80 {f g : Nat → Int32} {R : RD} {mu m v : Nat} (hW : WF R) (h : DrM f R mu m) (e : ∀ j, j ≠ 80 → g j = f j) (e1 : g 80 = nI v) : DrM g R v m := by
  have hC := hW.1
  have hW2 := hW.2.1
  obtain ⟨⟨h2, h3, h1, h0, hcs, hws⟩, hT, hU, h283, h80, h6⟩ := h
  refine ⟨⟨by rw [e _ (by omega)]; exact h2, by rw [e _ (by omega)]; exact h3, by rw [e _ (by omega)]; exact h1, by rw [e _ (by omega)]; exact h0, fun c hc => ?_, fun w hw => ?_⟩, lawE_k hT (e _ (by omega)) (e _ (by omega)) (e _ (by omega)) (fun q _ => e _ (by omega)) (Nat.le_refl _), lawE_k hU (e _ (by omega)) (e _ (by omega)) (e _ (by omega)) (fun q _ => e _ (by omega)) (Nat.le_refl _), by rw [e _ (by omega)]; exact h283, e1, fun j y1 y2 y3 => by rw [e _ (by omega)]; exact h6 j y1 y2 y3⟩
  · rw [e _ (by omega), e _ (by omega)]; exact hcs c hc
  · rw [e _ (by omega), e _ (by omega), e _ (by omega), e _ (by omega)]; exact hws w hw
theorem m_road {a : Int32} {K : Int32 → MI → ML → Prop} (hd : 84 ≤ d) (ht : TpM I t N) (hO : TpO t N) (h3 : ¬ (0 ≤ a.toInt ∧ a.toInt ≤ N) → K (-3) (ui I 704 0 0 0) L)
    (h0 : ∀ n x, n ≤ N → a = nI n → roadO (byF t N) n = Sum.inl x → ∀ I', I' 704 0 13 = nI x.1 → I' 704 0 14 = nI x.2 → I' 704 0 5 = 0 → mrF I I' → I' 706 0 = I 706 0 → K (-30 - nI x.1) I' L)
    (h1 : ∀ n u R, n ≤ N → a = nI n → roadO (byF t N) n = Sum.inr (u, R) → ∀ I', u < 10 → WF R → CoM I' R (st0 (nI u)) [] → I' 704 0 13 = 0 → I' 704 0 14 = -1 → I' 704 0 5 = 0 → mrF I I' → K (rN R) I' L) : CI d m_M_road [vR 704 0, vI a] I L K := by
  have hN := hO.1
  have eN : (nI N).toInt = N := nI_toInt (by omega)
  refine toCI (n := 83) hd (r_M_road_0 ?_)
  have e5 : ui I 704 0 0 0 704 0 5 = nI N := by rw [ui_k (by omega)]; exact ht.1
  have z0 : (0 : Int64).toInt = 0 := rfl
  rw [e5]
  refine c_M_within (by omega) (fun q1 q2 => ⟨fun _ => ?_, fun z => absurd (by decide) z⟩) (fun q => ⟨fun z => absurd rfl z, fun _ => ⟨_, rfl, h3 (fun z => q ?_)⟩⟩)
  · rw [z0, Int32.toInt_toInt64] at q1
    rw [Int32.toInt_toInt64, Int32.toInt_toInt64, eN] at q2
    have e1 := ge_nI (a := a) (by omega)
    have b1 : a.toInt.toNat ≤ N := by omega
    have f0 := fun x => h0 _ x b1 e1
    have f1 := fun u R => h1 _ u R b1 e1
    clear q1 q2 h0 h1 h3
    generalize a.toInt.toNat = n at *
    subst e1
    generalize ho : roadO (byF t N) n = o at f0 f1
    generalize eJ : ui (ui (ui (ui (ui I 704 0 0 0) 704 0 8 (nI n)) 704 0 5 0) 704 0 7 0) 704 0 11 0 = J
    have j8 : J 704 0 8 = nI n := by rw [← eJ, ui_k (by omega), ui_k (by omega), ui_k (by omega), ui_s]
    have j7 : J 704 0 7 = nI 0 := by rw [← eJ, ui_k (by omega), ui_s]; rfl
    have j11 : J 704 0 11 = 0 := by rw [← eJ, ui_s]
    have j5 : J 704 0 5 = 0 := by rw [← eJ, ui_k (by omega), ui_k (by omega), ui_s]
    have j0 : J 704 0 0 = 0 := by rw [← eJ, ui_k (by omega), ui_k (by omega), ui_k (by omega), ui_k (by omega), ui_s]
    have jj : ∀ j, j ≠ 0 → j ≠ 8 → j ≠ 5 → j ≠ 7 → j ≠ 11 → J 704 0 j = I 704 0 j := fun j y0 y8 y5 y7 y11 => by rw [← eJ, ui_k y11, ui_k y7, ui_k y5, ui_k y8, ui_k y0]
    have jr : ∀ r a, ¬ (r = 704 ∧ a = 0) → J r a = I r a := fun r a q => by rw [← eJ, ui_off q, ui_off q, ui_off q, ui_off q, ui_off q]
    clear eJ
    refine c_M_plain9 (by omega) (fun J1 p1 p2 => ?_)
    have r4 : J1 704 0 = J 704 0 := p2 704 0 (by omega)
    have hT : TxM J1 (byF t N) n := ⟨by rw [r4]; exact j8, by omega, fun i hi => by rw [p2 708 0 (by omega), jr 708 0 (by omega), ht.2 i (by omega)]; exact byF_e hO (by omega), byF_lt hO⟩
    refine toCV (n := 82) (by omega) (x_M_next (by omega) hT (by rw [r4]; exact j7) (by omega) (fun J2 k2 w2 => ⟨rfl, ?_⟩))
    have P2 : PsM J2 (byF t N) n 0 := ⟨TxM_fr hT (frW_N w2), k2, by omega, by rw [w2.2 11 (by omega), r4]; exact j11⟩
    have c2 : ∀ j, j < 1184 → J2 709 0 j = if j = 1 then 1 else 0 := fun j hj => by rw [w2.1 709 0 (by omega)]; exact p1 j hj
    have c0 : ∀ j, j < 1184 → j ≠ 1 → J2 709 0 j = 0 := fun j hj hj1 => by rw [c2 j hj, if_neg hj1]
    have D2 : DrM (J2 709 0) R0 0 0 := ⟨⟨c0 2 (by omega) (by omega), c0 3 (by omega) (by omega), by rw [c2 1 (by omega), if_pos rfl]; rfl, c0 0 (by omega) (by omega), fun c hc => absurd hc (Nat.not_lt_zero _), fun w hw => absurd hw (Nat.not_lt_zero _)⟩, c0 4 (by omega) (by omega), c0 5 (by omega) (by omega), c0 283 (by omega) (by omega), c0 80 (by omega) (by omega), fun j y1 y2 _ => c0 j (by omega) (by omega)⟩
    have F2 : frG J J2 := frG.tr ⟨fun r a _ y => p2 r a y, fun j _ _ => by rw [r4]⟩ (frN_G (frW_N w2))
    clear k2 w2 hT c2 c0 r4 p1 p2 j8 j7 j11
    have fr : ∀ G, frG J G → G 704 0 5 = 0 ∧ G 704 0 0 = 0 ∧ (∀ r a, r ≠ 704 → r ≠ 709 → G r a = I r a) ∧ ∀ j, (j ≠ 0 ∧ j < 5) ∨ 15 < j → G 704 0 j = I 704 0 j := fun G hG => ⟨by rw [hG.2 5 (by omega) (by omega)]; exact j5, by rw [hG.2 0 (by omega) (by omega)]; exact j0, fun r a x y => by rw [hG.1 r a (by omega) (by omega)]; exact jr r a (by omega), fun j hj => by rw [hG.2 j (by omega) (by omega)]; exact jj j (by omega) (by omega) (by omega) (by omega) (by omega)⟩
    have bad : ∀ G x, FtM G x.1 x.2 → frG J G → o = Sum.inl x → ∃ y, some (vI (-30 - nI x.1)) = some (vI y) ∧ K y (ui (ui G 704 0 13 (nI x.1)) 704 0 14 (nI x.2)) L := fun G x hF hG er => by
      obtain ⟨g5, g0, gr, gj⟩ := fr G hG
      refine ⟨_, rfl, f0 x er _ ?_ ?_ ?_ ⟨?_, ?_, ?_, ?_⟩ ?_⟩
      · rw [ui_k (by omega), ui_s]
      · rw [ui_s]
      · rw [ui_k (by omega), ui_k (by omega)]; exact g5
      · intro r a y1 y2 y3
        rw [ui_off (by omega), ui_off (by omega)]; exact gr r a y1 y3
      · intro j _
        rw [ui_r (by decide), ui_r (by decide), gr 706 0 (by decide) (by decide)]
      · intro j hj
        rw [ui_k (by omega), ui_k (by omega)]; exact gj j hj
      · rw [ui_k (by omega), ui_k (by omega)]; exact g0
      · rw [ui_off (by omega), ui_off (by omega)]; exact gr 706 0 (by decide) (by decide)
    have bd : ∀ G x, FtM G x.1 x.2 → frG J G → o = Sum.inl x → XX (83 + 1) m_M_road (fun r I' L' => ∃ y, r = some (vI y) ∧ K y I' L') 99 [vR 704 0, vD, vD] [] G L := fun G x hF hG er => x_M_bad hF (bad G x hF hG er)
    unfold roadO at ho
    refine eatM (j := 0) (by omega) P2 (by omega) (by omega) ho (fun J3 P3 F3 l3 k3 => ?_) (fun G x hF hN er => c_M_namedF (by omega) hF (fun y => c_M_namedF (by omega) (FtM_9 hF) (fun y2 => c_M_closesF (by omega) (FtM_9 (FtM_9 hF)) (fun G' f' r' => bd G' x f' ((((F2.tr (frN_G hN)).tr frG_9).tr frG_9).tr r') er))))
    have G3 := F2.tr (frN_G F3)
    refine nmM (j := 1) (a := 1) (b := 100) (by omega) P3 (by omega) (by omega) (hy_c (b := 99) (by omega)) k3 (fun J4 p4 v P4 F4 l4 v1 v2 k4 => ?_) (fun y G x hF hN er => c_M_namedF (by omega) (FtM_9 hF) (fun y2 => c_M_closesF (by omega) (FtM_9 (FtM_9 hF)) (fun G' f' r' => bd G' x f' ((((G3.tr (frN_G hN)).tr frG_9).tr frG_9).tr r') er)))
    have c4 : J4 709 0 = J2 709 0 := by rw [F4.1 709 0 (by omega), F3.1 709 0 (by omega)]
    have D4 : DrM (ui J4 709 0 1 (nI v) 709 0) (setP R0 v) 0 0 := DrM_1 WF_0 D2 (fun j hj => by rw [ui_k hj, c4]) ui_s
    have G4 := (G3.tr (frN_G F4)).tr (frG_9 (I := J4) (j := 1) (x := nI v))
    have W4 := WF_P WF_0 v1 v2
    refine nmM (j := 2) (a := 0) (b := 10) (by omega) (PsM_9 P4) (by omega) (by omega) (hy_c (b := 9) (by omega)) k4 (fun J5 p5 u P5 F5 l5 _ u2 k5 => ?_) (fun y G x hF hN er => c_M_closesF (by omega) (FtM_9 hF) (fun G' f' r' => bd G' x f' (((G4.tr (frN_G hN)).tr frG_9).tr r') er))
    have c5 : J5 709 0 = ui J4 709 0 1 (nI v) 709 0 := F5.1 709 0 (by omega)
    have D5 : DrM (ui J5 709 0 80 (nI u) 709 0) (setP R0 v) u 0 := DrM_80 W4 D4 (fun j hj => by rw [ui_k hj, c5]) ui_s
    have G5 := (G4.tr (frN_G F5)).tr (frG_9 (I := J5) (j := 80) (x := nI u))
    refine c_M_closes (by omega) W4 (PsM_9 P5) D5 (by omega) (fun J6 h6 => ?_)
    rcases bnL_cs k5 with ⟨x, ex, er⟩ | ⟨z, ez, k6⟩
    · rw [ex] at h6
      exact bd J6 x h6.1 (G5.tr h6.2) er
    · rw [ez] at h6
      obtain ⟨P6, F6, l6, W6, m6, hm6, D6⟩ := h6
      refine lpsM (by omega) 901 z.2 z.1 m6 J6 _ (by omega) W6 P6 D6 hm6 (G5.tr F6) rfl (fun G x hF hG ex => ?_) (fun G R' m' W' D' hm' hG ex => ?_)
      · rcases bnL_cs k6 with ⟨x', ex', er⟩ | ⟨R', eR, er⟩
        · have : Sum.inl x' = (Sum.inl x : LO RD) := ex'.symm.trans ex
          injection this with this
          rw [this] at er
          exact bad G x hF hG er
        · exact absurd (eR.symm.trans ex) (by simp)
      · rcases bnL_cs k6 with ⟨x', ex', er⟩ | ⟨R'', eR, er⟩
        · exact absurd (ex'.symm.trans ex) (by simp)
        · have : Sum.inr R'' = (Sum.inr R' : LO RD) := eR.symm.trans ex
          injection this with this
          rw [this] at er
          obtain ⟨g5, g0, gr, gj⟩ := fr G hG
          refine x_M_copy (fun I' i1 i2 i3 => ?_)
          have q9 : ui (ui G 704 0 13 0) 704 0 14 (-1) 709 0 = G 709 0 := by rw [ui_off (by omega), ui_off (by omega)]
          rw [q9] at i1
          rw [q9]
          have e00 : G 709 0 0 = rN R' := D'.1.2.2.2.1
          rw [e00]
          have i4 : I' 704 0 = ui (ui G 704 0 13 0) 704 0 14 (-1) 704 0 := i3 704 0 (by omega)
          refine ⟨_, rfl, f1 u R' er.symm I' u2 W' ⟨MRo_c2 W' (DrM_R D' hm') i1, ?_, ?_⟩ ?_ ?_ ?_ ⟨?_, ?_, ?_, ?_⟩⟩
          · have := (DrM_S D').1
            exact ⟨fun c hc => by rw [i1 _ (by omega), i1 _ (by omega), i1 _ (by omega)]; exact this.1 c hc, by rw [i1 _ (by omega)]; exact this.2.1, by rw [i1 _ (by omega)]; exact this.2.2⟩
          · have := (DrM_S D').2
            exact ⟨this.1, by rw [i1 _ (by omega)]; exact this.2.1, fun k hk => absurd hk (Nat.not_lt_zero _)⟩
          · rw [i4, ui_k (by omega), ui_s]
          · rw [i4, ui_s]
          · rw [i4, ui_k (by omega), ui_k (by omega)]; exact g5
          · intro r a y1 y2 y3
            rw [i3 r a (by omega), ui_off (by omega), ui_off (by omega)]; exact gr r a y1 y3
          · intro j hj
            rw [i2 j hj, ui_r (by decide), ui_r (by decide), gr 706 0 (by decide) (by decide)]
          · intro j hj
            rw [i4, ui_k (by omega), ui_k (by omega)]; exact gj j hj
          · rw [i4, ui_k (by omega), ui_k (by omega)]; exact g0
  · rw [z0, Int32.toInt_toInt64, Int32.toInt_toInt64, eN]
    exact z
end RoadM
